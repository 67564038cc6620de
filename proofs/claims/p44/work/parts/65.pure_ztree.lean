/-! the tree as counts on a grid of levels and leaves -/
theorem CTP_le {P : Nat → Prop} {a : Nat} : ∀ b : Nat, a ≤ b → CTP P a ≤ CTP P b := by
  intro b
  induction b with
  | zero => intro h; rw [show a = 0 by omega]; exact Int.le_refl _
  | succ b ih =>
    intro h
    by_cases e : a = b + 1
    · rw [e]; exact Int.le_refl _
    · have i := ih (by omega)
      by_cases q : P b
      · rw [CTP_y q]; omega
      · rw [CTP_n q]; exact i
theorem CTP_st {P : Nat → Prop} {a : Nat} : ∀ b : Nat, a ≤ b → (∀ w, a ≤ w → w < b → ¬ P w) → CTP P b = CTP P a := by
  intro b
  induction b with
  | zero => intro h _; rw [show a = 0 by omega]
  | succ b ih =>
    intro h k
    by_cases e : a = b + 1
    · rw [e]
    · rw [CTP_n (k b (by omega) (by omega))]
      exact ih (by omega) (fun w p q => k w p (by omega))
theorem CTP_lt {P : Nat → Prop} {a b : Nat} (h : a < b) (p : P a) : CTP P a < CTP P b := by
  have := CTP_le (P := P) b (show a + 1 ≤ b by omega)
  rw [CTP_y p] at this
  omega
theorem CTP_inj {P : Nat → Prop} {a b : Nat} (p : P a) (q : P b) (h : CTP P a = CTP P b) : a = b := by
  by_cases x : a < b
  · have := CTP_lt x p
    omega
  · by_cases y : b < a
    · have := CTP_lt y q
      omega
    · omega
theorem CTP_inv {P : Nat → Prop} {e : Int} (h0 : 0 ≤ e) : ∀ n : Nat, e < CTP P n → ∃ w, w < n ∧ P w ∧ CTP P w = e := by
  intro n
  induction n with
  | zero =>
    intro h
    have h2 : e < 0 := h
    omega
  | succ n ih =>
    intro h
    by_cases q : P n
    · rw [CTP_y q] at h
      by_cases x : e < CTP P n
      · obtain ⟨w, a, b, c⟩ := ih x
        exact ⟨w, by omega, b, c⟩
      · exact ⟨n, by omega, q, by omega⟩
    · rw [CTP_n q] at h
      obtain ⟨w, a, b, c⟩ := ih h
      exact ⟨w, by omega, b, c⟩
theorem CTP_sub {P R : Nat → Prop} (s : ∀ w, R w → P w) {a b : Nat} (h : a ≤ b) (e : CTP P a = CTP P b) : CTP R a = CTP R b := by
  refine (CTP_st b h (fun w p q r => ?_)).symm
  have h1 := CTP_le (P := P) w p
  have h2 := CTP_lt q (s w r)
  omega
theorem CTP_sub2 {P R : Nat → Prop} (s : ∀ w, R w → P w) {a b : Nat} (e : CTP P a = CTP P b) : CTP R a = CTP R b := by
  by_cases h : a ≤ b
  · exact CTP_sub s h e
  · exact (CTP_sub s (by omega) e.symm).symm
theorem CTP_or {P R : Nat → Prop} : ∀ n : Nat, CTP (fun w => P w ∨ R w) n ≤ CTP P n + CTP R n := by
  intro n
  induction n with
  | zero => exact Int.le_refl _
  | succ n ih =>
    by_cases p : P n
    · rw [CTP_y (P := fun w => P w ∨ R w) (Or.inl p), CTP_y p]
      by_cases r : R n
      · rw [CTP_y r]; omega
      · rw [CTP_n r]; omega
    · by_cases r : R n
      · rw [CTP_y (P := fun w => P w ∨ R w) (Or.inr r), CTP_n p, CTP_y r]; omega
      · rw [CTP_n (P := fun w => P w ∨ R w) (fun h => h.elim p r), CTP_n p, CTP_n r]; exact ih
theorem CTP_one {P : Nat → Prop} {a : Nat} (h : ¬ P a) : ∀ n : Nat, CTP (fun w => P w ∨ w = a) n = CTP P n + (if a < n then 1 else 0) := by
  intro n
  induction n with
  | zero => rfl
  | succ n ih =>
    by_cases e : n = a
    · rw [CTP_y (P := fun w => P w ∨ w = a) (Or.inr e), ih, CTP_n (by rw [e]; exact h), if_neg (show ¬ a < n by omega), if_pos (show a < n + 1 by omega)]
      omega
    · by_cases p : P n
      · rw [CTP_y (P := fun w => P w ∨ w = a) (Or.inl p), CTP_y p, ih]
        by_cases q : a < n
        · rw [if_pos q, if_pos (show a < n + 1 by omega)]
        · rw [if_neg q, if_neg (show ¬ a < n + 1 by omega)]; omega
      · rw [CTP_n (P := fun w => P w ∨ w = a) (fun x => x.elim p e), CTP_n p, ih]
        by_cases q : a < n
        · rw [if_pos q, if_pos (show a < n + 1 by omega)]
        · rw [if_neg q, if_neg (show ¬ a < n + 1 by omega)]
theorem CTP_enu {P : Nat → Prop} {a : Nat → Nat} {m N : Nat} (h1 : ∀ x, x < m → a x < N ∧ P (a x)) (h2 : ∀ x y, x < y → y < m → a x < a y) (h3 : ∀ w, w < N → P w → ∃ x, x < m ∧ a x = w) : (∀ x : Nat, x < m → CTP P (a x) = (x : Int)) ∧ CTP P N = (m : Int) := by
  have mono : ∀ x y, y < m → a x < a y → x < m → x < y := by
    intro x y hy h hx
    by_cases e : x = y
    · rw [e] at h; omega
    · by_cases g : y < x
      · have := h2 y x g hx
        omega
      · omega
  have A : ∀ x : Nat, x < m → CTP P (a x) = (x : Int) := by
    intro x
    induction x with
    | zero =>
      intro h
      refine CTP_st (P := P) (a := 0) (a 0) (by omega) (fun w _ q r => ?_)
      obtain ⟨y, y1, y2⟩ := h3 w (by have := (h1 0 h).1; omega) r
      have := mono y 0 h (by omega) y1
      omega
    | succ x ih =>
      intro h
      have i := ih (by omega)
      have l := h2 x (x + 1) (by omega) h
      have e : CTP P (a (x + 1)) = CTP P (a x + 1) := by
        refine CTP_st (P := P) (a := a x + 1) (a (x + 1)) (by omega) (fun w p q r => ?_)
        obtain ⟨y, y1, y2⟩ := h3 w (by have := (h1 (x + 1) h).1; omega) r
        have k1 := mono y (x + 1) h (by omega) y1
        have k2 := mono x y y1 (by omega) (by omega)
        omega
      rw [e, CTP_y (h1 x (by omega)).2, i]
      omega
  refine ⟨A, ?_⟩
  by_cases hm : m = 0
  · have e : CTP P N = CTP P 0 := by
      refine CTP_st (P := P) (a := 0) N (by omega) (fun w _ q r => ?_)
      obtain ⟨y, y1, _⟩ := h3 w q r
      omega
    rw [e, hm]
    rfl
  · have i := A (m - 1) (by omega)
    have b := h1 (m - 1) (by omega)
    have e : CTP P N = CTP P (a (m - 1) + 1) := by
      refine CTP_st (P := P) (a := a (m - 1) + 1) N (by omega) (fun w p q r => ?_)
      obtain ⟨y, y1, y2⟩ := h3 w q r
      have k2 := mono (m - 1) y y1 (by omega) (by omega)
      omega
    rw [e, CTP_y b.2, i]
    omega
def NST (n : Nat) (C : Nat → Nat) (P : Nat → Nat → Nat) (l i : Nat) : Prop := i < n ∧ l ≤ C i ∧ (i = 0 ∨ ¬ (l ≤ C (i - 1) ∧ P l (i - 1) = P l i))
def EST (n : Nat) (C : Nat → Nat) (P : Nat → Nat → Nat) (l i : Nat) : Prop := i < n ∧ (C i = l ∨ NST n C P (l + 1) i)
def IsN (n : Nat) (C : Nat → Nat) (P : Nat → Nat → Nat) (w : Nat) : Prop := NST n C P (w / 64) (w % 64)
def IsE (n : Nat) (C : Nat → Nat) (P : Nat → Nat → Nat) (w : Nat) : Prop := EST n C P (w / 64) (w % 64)
def IsL (n : Nat) (C : Nat → Nat) (w : Nat) : Prop := w % 64 < n ∧ C (w % 64) = w / 64
noncomputable def NB (n : Nat) (C : Nat → Nat) (P : Nat → Nat → Nat) (w : Nat) : Int := CTP (IsN n C P) w
noncomputable def EB (n : Nat) (C : Nat → Nat) (P : Nat → Nat → Nat) (w : Nat) : Int := CTP (IsE n C P) w
noncomputable def LB (n : Nat) (C : Nat → Nat) (w : Nat) : Int := CTP (IsL n C) w
def GRD (n : Nat) (C L : Nat → Nat) (P : Nat → Nat → Nat) : Prop :=
  n ≤ 64 ∧ (∀ i, i < n → C i ≤ L i ∧ 1 ≤ L i ∧ L i ≤ 8 ∧ C i ≤ 7) ∧ (∀ l i j, l < 8 → P (l + 1) i = P (l + 1) j → P l i = P l j) ∧ (∀ l i j, i ≤ j → j < n → P l i ≤ P l j) ∧
  (∀ l i j, l ≤ 8 → i < j → j < n → l ≤ L i → l ≤ L j → P l i = P l j → ∀ k, i ≤ k → k ≤ j → l ≤ C k ∧ P l k = P l i) ∧
  (∀ l i, i < n → 1 ≤ l → l ≤ C i → (1 ≤ i ∧ l ≤ L (i - 1) ∧ P l (i - 1) = P l i) ∨ (i + 1 < n ∧ l ≤ L (i + 1) ∧ P l (i + 1) = P l i)) ∧
  (∀ l i j, i < j → j < n → l = L j → l ≤ L i → P l i ≠ P l j) ∧ ∀ i j, P 0 i = P 0 j
theorem gd1 (l : Nat) {i : Nat} (h : i < 64) : (64 * l + i) / 64 = l := by omega
theorem gd2 (l : Nat) {i : Nat} (h : i < 64) : (64 * l + i) % 64 = i := by omega
theorem IsN_at {n : Nat} {C : Nat → Nat} {P : Nat → Nat → Nat} {l i : Nat} (h : i < 64) : IsN n C P (64 * l + i) ↔ NST n C P l i := by
  unfold IsN
  rw [gd1 l h, gd2 l h]
theorem IsE_at {n : Nat} {C : Nat → Nat} {P : Nat → Nat → Nat} {l i : Nat} (h : i < 64) : IsE n C P (64 * l + i) ↔ EST n C P l i := by
  unfold IsE
  rw [gd1 l h, gd2 l h]
theorem IsL_at {n : Nat} {C : Nat → Nat} {l i : Nat} (h : i < 64) : IsL n C (64 * l + i) ↔ (i < n ∧ C i = l) := by
  unfold IsL
  rw [gd1 l h, gd2 l h]
theorem EST_c {n : Nat} {C : Nat → Nat} {P : Nat → Nat → Nat} {l i : Nat} (h : EST n C P l i) : i < n ∧ l ≤ C i := by
  rcases h.2 with e | e
  · exact ⟨h.1, by omega⟩
  · exact ⟨h.1, by have := e.2.1; omega⟩
theorem IsL_E {n : Nat} {C : Nat → Nat} {P : Nat → Nat → Nat} {w : Nat} (h : IsL n C w) : IsE n C P w := ⟨h.1, Or.inl h.2⟩
theorem GRP_st {n : Nat} {C : Nat → Nat} {P : Nat → Nat → Nat} (hn : n ≤ 64) {l : Nat} : ∀ i : Nat, i < n → l ≤ C i → ∃ s, s ≤ i ∧ NST n C P l s ∧ NB n C P (64 * l + i + 1) = NB n C P (64 * l + s) + 1 ∧ ∀ k, s ≤ k → k ≤ i → l ≤ C k ∧ P l k = P l s := by
  intro i
  induction i with
  | zero =>
    intro h c
    have hs : NST n C P l 0 := ⟨h, c, Or.inl rfl⟩
    refine ⟨0, Nat.le_refl _, hs, CTP_y ((IsN_at (by omega)).mpr hs), fun k _ k2 => ?_⟩
    rw [show k = 0 by omega]
    exact ⟨c, rfl⟩
  | succ i ih =>
    intro h c
    by_cases hs : NST n C P l (i + 1)
    · refine ⟨i + 1, Nat.le_refl _, hs, CTP_y ((IsN_at (by omega)).mpr hs), fun k k1 k2 => ?_⟩
      rw [show k = i + 1 by omega]
      exact ⟨c, rfl⟩
    · have q : l ≤ C i ∧ P l i = P l (i + 1) := by
        apply Classical.byContradiction
        intro z
        exact hs ⟨h, c, Or.inr z⟩
      obtain ⟨s, s1, s2, s3, s4⟩ := ih (by omega) q.1
      refine ⟨s, by omega, s2, ?_, fun k k1 k2 => ?_⟩
      · rw [← s3]
        exact CTP_n (fun z => hs ((IsN_at (l := l) (by omega)).mp z))
      · by_cases e : k = i + 1
        · rw [e]
          exact ⟨c, by rw [← q.2]; exact (s4 i s1 (Nat.le_refl _)).2⟩
        · exact s4 k k1 (by omega)
theorem NST_one {n : Nat} {C : Nat → Nat} {P : Nat → Nat → Nat} {l s t i : Nat} (h : NST n C P l s) (h2 : NST n C P l t) (p : s ≤ i) (q : t ≤ i) (a : ∀ k, s ≤ k → k ≤ i → l ≤ C k ∧ P l k = P l s) (b : ∀ k, t ≤ k → k ≤ i → l ≤ C k ∧ P l k = P l t) : s = t := by
  by_cases x : s < t
  · exfalso
    have a1 := a (t - 1) (by omega) (by omega)
    have a2 := a t (by omega) q
    rcases h2.2.2 with e | e
    · omega
    · exact e ⟨a1.1, by rw [a1.2, a2.2]⟩
  · by_cases y : t < s
    · exfalso
      have b1 := b (s - 1) (by omega) (by omega)
      have b2 := b s (by omega) p
      rcases h.2.2 with e | e
      · omega
      · exact e ⟨b1.1, by rw [b1.2, b2.2]⟩
    · omega
def GRQ (n : Nat) (C : Nat → Nat) (P : Nat → Nat → Nat) (l s e m : Nat) : Prop := s < e ∧ e ≤ n ∧ (∀ k, s ≤ k → k < e → l ≤ C k ∧ P l k = P l s) ∧ (e < m → ¬ (l ≤ C e ∧ P l e = P l s))
theorem GRQ_one {n : Nat} {C : Nat → Nat} {P : Nat → Nat → Nat} {l s e e2 : Nat} (h : GRQ n C P l s e n) (h2 : GRQ n C P l s e2 n) : e = e2 := by
  by_cases x : e < e2
  · exact absurd (h2.2.2.1 e (by have := h.1; omega) x) (h.2.2.2 (by have := h2.2.1; omega))
  · by_cases y : e2 < e
    · exact absurd (h.2.2.1 e2 (by have := h2.1; omega) y) (h2.2.2.2 (by have := h.2.1; omega))
    · omega
/-! behind a group of leaves, up to the next node, nothing begins -/
theorem GAP {n : Nat} {C : Nat → Nat} {P : Nat → Nat → Nat} (hn : n ≤ 64) {l e b : Nat} (he : e ≤ 64) (hc : e < n → l ≤ C e → NST n C P l e) (hN : ∀ w, 64 * l + e ≤ w → w < b → ¬ IsN n C P w) {m k : Nat} (h1 : 64 * l + e ≤ 64 * m + k) (h2 : 64 * m + k < b) (hk : k < n) (hm : m ≤ C k) : False := by
  obtain ⟨s, s1, s2, _, s4⟩ := GRP_st (P := P) hn k hk hm
  by_cases x : 64 * l + e ≤ 64 * m + s
  · exact hN (64 * m + s) x (by omega) ((IsN_at (by omega)).mpr s2)
  · have em : m = l := by omega
    subst em
    have q := s4 e (by omega) (by omega)
    have q1 := s4 (e - 1) (by omega) (by omega)
    rcases (hc (by omega) q.1).2.2 with z | z
    · omega
    · exact z ⟨q1.1, by rw [q1.2, q.2]⟩
theorem EB_gap {n : Nat} {C : Nat → Nat} {P : Nat → Nat → Nat} (hn : n ≤ 64) {l e b : Nat} (he : e ≤ 64) (hc : e < n → l ≤ C e → NST n C P l e) (hb : 64 * l + e ≤ b) (hN : ∀ w, 64 * l + e ≤ w → w < b → ¬ IsN n C P w) : EB n C P b = EB n C P (64 * l + e) := by
  refine CTP_st b hb (fun w p q r => ?_)
  have c := EST_c r
  have d : 64 * (w / 64) + w % 64 = w := by omega
  exact GAP hn he hc hN (m := w / 64) (k := w % 64) (by omega) (by omega) c.1 c.2
theorem GRQ_cl {n : Nat} {C : Nat → Nat} {P : Nat → Nat → Nat} {l s e : Nat} (h : GRQ n C P l s e n) : e < n → l ≤ C e → NST n C P l e := by
  intro h1 h2
  refine ⟨h1, h2, Or.inr (fun z => ?_)⟩
  have a := h.1
  have q := h.2.2.1 (e - 1) (by omega) (by omega)
  exact h.2.2.2 h1 ⟨h2, by rw [← z.2, q.2]⟩
/-! what a node of a level from the first on needs: two leaves -/
theorem NST_two {n : Nat} {C L : Nat → Nat} {P : Nat → Nat → Nat} (G : GRD n C L P) {l s : Nat} (hl : 1 ≤ l) (h : NST n C P l s) : s + 1 < n ∧ l ≤ C (s + 1) ∧ P l (s + 1) = P l s := by
  obtain ⟨_, a, _, _, r, b, _⟩ := G
  have c := a s h.1
  have nb : ∀ i j : Nat, i < j → j < n → l ≤ L i → l ≤ L j → P l i = P l j → (l ≤ C i ∧ P l i = P l i) ∧ l ≤ C j ∧ P l j = P l i := by
    intro i j x y z t u
    have e8 : l ≤ 8 := by have := h.2.1; omega
    exact ⟨r l i j e8 x y z t u i (Nat.le_refl _) (by omega), r l i j e8 x y z t u j (by omega) (Nat.le_refl _)⟩
  rcases b l s h.1 hl h.2.1 with ⟨b1, b2, b3⟩ | ⟨b1, b2, b3⟩
  · exfalso
    have q := nb (s - 1) s (by omega) h.1 b2 (by have := h.2.1; omega) b3
    rcases h.2.2 with e | e
    · omega
    · exact e ⟨q.1.1, b3⟩
  · have q := nb s (s + 1) (by omega) b1 (by have := h.2.1; omega) b2 b3.symm
    exact ⟨b1, q.2.1, b3⟩
theorem NST_adj {n : Nat} {C L : Nat → Nat} {P : Nat → Nat → Nat} (G : GRD n C L P) {l s : Nat} (hl : 1 ≤ l) (h : NST n C P l s) : ¬ NST n C P l (s + 1) := by
  intro h2
  have q := NST_two G hl h
  rcases h2.2.2 with e | e
  · omega
  · exact e ⟨h.2.1, q.2.2.symm⟩
theorem half {Q : Nat → Prop} (h : ∀ i, Q i → ¬ Q (i + 1)) : ∀ i : Nat, 2 * CTP Q i ≤ (i : Int) + 1 ∧ 2 * CTP Q (i + 1) ≤ (i : Int) + 2 := by
  intro i
  induction i with
  | zero =>
    have z : CTP Q 0 = 0 := rfl
    by_cases q : Q 0
    · rw [CTP_y q]; omega
    · rw [CTP_n q]; omega
  | succ i ih =>
    refine ⟨by omega, ?_⟩
    by_cases q : Q (i + 1)
    · have q0 : ¬ Q i := fun x => h i x q
      rw [CTP_y q, CTP_n q0]
      omega
    · rw [CTP_n q]
      omega
theorem NB_row {n : Nat} {C : Nat → Nat} {P : Nat → Nat → Nat} {l : Nat} : ∀ i : Nat, i ≤ 64 → NB n C P (64 * l + i) = NB n C P (64 * l) + CTP (NST n C P l) i := by
  intro i
  induction i with
  | zero => intro _; exact (Int.add_zero _).symm
  | succ i ih =>
    intro h
    have e := ih (by omega)
    by_cases q : NST n C P l i
    · rw [CTP_y q, show NB n C P (64 * l + (i + 1)) = NB n C P (64 * l + i) + 1 from CTP_y ((IsN_at (by omega)).mpr q), e]
      omega
    · rw [CTP_n q, show NB n C P (64 * l + (i + 1)) = NB n C P (64 * l + i) from CTP_n (fun z => q ((IsN_at (by omega)).mp z)), e]
theorem NST_root {n : Nat} {C L : Nat → Nat} {P : Nat → Nat → Nat} (G : GRD n C L P) {i : Nat} (h : NST n C P 0 i) : i = 0 := by
  rcases h.2.2 with e | e
  · exact e
  · exact absurd ⟨Nat.zero_le _, G.2.2.2.2.2.2.2 _ _⟩ e
theorem NB_lev {n : Nat} {C L : Nat → Nat} {P : Nat → Nat → Nat} (G : GRD n C L P) : ∀ l : Nat, NB n C P (64 * l) ≤ 32 * (l : Int) ∧ (1 ≤ l → NB n C P (64 * l) ≤ 32 * (l : Int) - 31) := by
  intro l
  induction l with
  | zero => exact ⟨Int.le_refl _, fun h => by omega⟩
  | succ l ih =>
    have e := NB_row (n := n) (C := C) (P := P) (l := l) 64 (Nat.le_refl _)
    rw [show 64 * (l + 1) = 64 * l + 64 by omega, e]
    by_cases z : l = 0
    · subst z
      have k : CTP (NST n C P 0) 64 = CTP (NST n C P 0) 1 := CTP_st 64 (by omega) (fun w p _ r => by have := NST_root G r; omega)
      have k2 := CTP_rng (NST n C P 0) 1
      have k3 : NB n C P (64 * 0) = 0 := rfl
      omega
    · have k := (half (fun i h => NST_adj G (show 1 ≤ l by omega) h) 64).1
      have k2 := ih.2 (by omega)
      omega
theorem NB_le {n : Nat} {C L : Nat → Nat} {P : Nat → Nat → Nat} (G : GRD n C L P) {l i : Nat} (hl : l ≤ 7) (hi : i ≤ 64) : 0 ≤ NB n C P (64 * l + i) ∧ NB n C P (64 * l + i) ≤ 225 := by
  have e := NB_row (n := n) (C := C) (P := P) (l := l) 64 (Nat.le_refl _)
  have m : NB n C P (64 * l + i) ≤ NB n C P (64 * l + 64) := CTP_le _ (by omega)
  have m2 : NB n C P (64 * l + 64) ≤ NB n C P (64 * 8) := CTP_le _ (by omega)
  have k := (NB_lev G 8).2 (by omega)
  exact ⟨(CTP_rng _ _).1, by omega⟩
/-! each leaf ends once -/
theorem LB_all {C : Nat → Nat} : ∀ n : Nat, n ≤ 64 → (∀ i, i < n → C i ≤ 7) → LB n C 512 = (n : Int) := by
  intro n
  induction n with
  | zero =>
    intro _ _
    exact CTP_st (P := IsL 0 C) (a := 0) 512 (by omega) (fun w _ _ r => by have := r.1; omega)
  | succ n ih =>
    intro h c
    have e := ih (by omega) (fun i hi => c i (by omega))
    have k : LB (n + 1) C 512 = CTP (fun w => IsL n C w ∨ w = 64 * C n + n) 512 := by
      refine CTP_congr 512 (fun w hw => ⟨fun q => ?_, fun q => ?_⟩)
      · by_cases x : w % 64 = n
        · refine Or.inr ?_
          have := q.2
          rw [x] at this
          omega
        · exact Or.inl ⟨by have := q.1; omega, q.2⟩
      · rcases q with q | q
        · exact ⟨by have := q.1; omega, q.2⟩
        · have a1 : w % 64 = n := by omega
          have a2 : w / 64 = C n := by omega
          exact ⟨by omega, by rw [a1, a2]⟩
    have c1 := c n (by omega)
    rw [k, CTP_one (P := IsL n C) (a := 64 * C n + n) (fun z => by have := z.1; omega) 512, if_pos (show 64 * C n + n < 512 by omega)]
    have e2 : CTP (IsL n C) 512 = (n : Int) := e
    omega
theorem EB_le {n : Nat} {C L : Nat → Nat} {P : Nat → Nat → Nat} (G : GRD n C L P) {w : Nat} (hw : w ≤ 512) : 0 ≤ EB n C P w ∧ EB n C P w ≤ 289 := by
  refine ⟨(CTP_rng _ _).1, ?_⟩
  have h1 : EB n C P w ≤ EB n C P 512 := CTP_le _ hw
  have h2 : EB n C P 512 = CTP (fun v => IsL n C v ∨ IsN n C P (v + 64)) 512 := by
    refine CTP_congr 512 (fun v _ => ⟨fun q => ?_, fun q => ?_⟩)
    · rcases q.2 with z | z
      · exact Or.inl ⟨q.1, z⟩
      · refine Or.inr ?_
        unfold IsN
        rw [show (v + 64) / 64 = v / 64 + 1 by omega, show (v + 64) % 64 = v % 64 by omega]
        exact z
    · rcases q with z | z
      · exact IsL_E z
      · unfold IsN at z
        rw [show (v + 64) / 64 = v / 64 + 1 by omega, show (v + 64) % 64 = v % 64 by omega] at z
        exact ⟨z.1, Or.inr z⟩
  have h3 := CTP_or (P := IsL n C) (R := fun v => IsN n C P (v + 64)) 512
  have h4 : CTP (IsL n C) 512 = (n : Int) := LB_all n G.1 (fun i hi => (G.2.1 i hi).2.2.2)
  have sh : ∀ v : Nat, CTP (fun v => IsN n C P (v + 64)) v = NB n C P (v + 64) - NB n C P 64 := by
    intro v
    induction v with
    | zero => rw [show NB n C P (0 + 64) = NB n C P 64 from rfl]; show (0 : Int) = _; omega
    | succ v ih =>
      by_cases q : IsN n C P (v + 64)
      · rw [CTP_y (P := fun v => IsN n C P (v + 64)) q, ih, show NB n C P (v + 1 + 64) = NB n C P (v + 64) + 1 from by rw [show v + 1 + 64 = (v + 64) + 1 by omega]; exact CTP_y q]
        omega
      · rw [CTP_n (P := fun v => IsN n C P (v + 64)) q, ih, show NB n C P (v + 1 + 64) = NB n C P (v + 64) from by rw [show v + 1 + 64 = (v + 64) + 1 by omega]; exact CTP_n q]
  have h5 := sh 512
  have h6 : NB n C P (512 + 64) = NB n C P 512 := CTP_st _ (by omega) (fun v p q r => by
    have a := r.1
    have b := r.2.1
    have c := (G.2.1 _ a).2.2.2
    omega)
  have h7 := NB_le G (l := 7) (i := 64) (by omega) (by omega)
  have h8 : NB n C P (64 * 7 + 64) = NB n C P 512 := rfl
  have h9 : 0 ≤ NB n C P 64 := (CTP_rng _ _).1
  have g := G.1
  omega
/-! the grid of sorted keys -/
theorem cl_up {x t l : Nat} (h : PX x t * 2 ^ (64 - 8 * t) = x) (htl : t ≤ l) : PX x l * 2 ^ (64 - 8 * l) = x := by
  have d : 2 ^ (64 - 8 * l) ∣ 2 ^ (64 - 8 * t) := Nat.pow_dvd_pow 2 (by omega)
  have d2 : 2 ^ (64 - 8 * t) ∣ x := ⟨PX x t, by rw [Nat.mul_comm]; exact h.symm⟩
  exact Nat.div_mul_cancel (Nat.dvd_trans d d2)
theorem KLT_ub {a b : Int64} {n m : Int32} (h : KLT a n b m) : ub a ≤ ub b := by
  rcases h with h | ⟨h, _⟩
  · omega
  · rw [h]; exact Nat.le_refl _
theorem SRT_ub {f : Nat → Int64} {g : Nat → Int32} {c : Int} (h : SRT f g c) {i j : Nat} (hij : i ≤ j) (hj : (j : Int) < c) : ub (f i) ≤ ub (f j) := by
  by_cases e : i = j
  · rw [e]; exact Nat.le_refl _
  · exact KLT_ub (h.1 i j (by omega) hj)
/-- a key between two that have l bytes alike has l bytes -/
theorem SRT_len {f : Nat → Int64} {g : Nat → Int32} {c : Int} (h : SRT f g c) (hc : CLN f g c) {l i k : Nat} (hik : i < k) (hk : (k : Int) < c) (hl : l ≤ (g i).toInt.toNat) (he : PX (ub (f i)) l = PX (ub (f k)) l) : l < (g k).toInt.toNat := by
  apply Classical.byContradiction
  intro hn
  have c1 := cl_up (hc k hk) (show (g k).toInt.toNat ≤ l by omega)
  rw [← he] at c1
  have c2 := PX_mul (ub (f i)) l
  rcases h.1 i k hik hk with q | ⟨q, q2⟩
  · omega
  · have r := h.2 k hk
    omega
theorem GRD_of {f : Nat → Int64} {g : Nat → Int32} {c : Int} (h : SRT f g c) (hc : CLN f g c) (h64 : c ≤ 64) : GRD c.toNat (COM f g c) (fun i => (g i).toInt.toNat) (fun l i => PX (ub (f i)) l) := by
  have nbr : ∀ l i : Nat, (i : Int) < c → 1 ≤ l → l ≤ COM f g c i → (1 ≤ i ∧ l ≤ (g (i - 1)).toInt.toNat ∧ PX (ub (f (i - 1))) l = PX (ub (f i)) l) ∨ (((i + 1 : Nat) : Int) < c ∧ l ≤ (g (i + 1)).toInt.toNat ∧ PX (ub (f (i + 1))) l = PX (ub (f i)) l) := by
    intro l i hi h1 hC
    have use : ∀ j : Nat, (j : Int) < c → l ≤ ALR f g i j → l ≤ (g j).toInt.toNat ∧ PX (ub (f j)) l = PX (ub (f i)) l := by
      intro j hj hA
      have s := ALR_spec f g i j
      have b := h.2 i hi
      refine ⟨by omega, (PX_dn hA (by omega) s.2.1).symm⟩
    unfold COM at hC
    by_cases z : i = 0
    · rw [if_pos z] at hC
      by_cases y : ((i + 1 : Nat) : Int) < c
      · rw [if_pos y] at hC
        exact Or.inr ⟨y, use (i + 1) y (by omega)⟩
      · rw [if_neg y] at hC
        omega
    · rw [if_neg z] at hC
      by_cases x : l ≤ ALR f g i (i - 1)
      · exact Or.inl ⟨by omega, use (i - 1) (by omega) x⟩
      · by_cases y : ((i + 1 : Nat) : Int) < c
        · rw [if_pos y] at hC
          exact Or.inr ⟨y, use (i + 1) y (by omega)⟩
        · rw [if_neg y] at hC
          omega
  have fst : ∀ l i j : Nat, i < j → (j : Int) < c → l = (g j).toInt.toNat → l ≤ (g i).toInt.toNat → PX (ub (f i)) l ≠ PX (ub (f j)) l := by
    intro l i j hij hj hl hli he
    have := SRT_len h hc hij hj hli he
    omega
  have run : ∀ l i j : Nat, l ≤ 8 → i < j → (j : Int) < c → l ≤ (g i).toInt.toNat → l ≤ (g j).toInt.toNat → PX (ub (f i)) l = PX (ub (f j)) l → ∀ k, i ≤ k → k ≤ j → l ≤ COM f g c k ∧ PX (ub (f k)) l = PX (ub (f i)) l := by
    intro l i j h8 hij hj hli hlj he
    have same : ∀ k, i ≤ k → k ≤ j → PX (ub (f k)) l = PX (ub (f i)) l ∧ l ≤ (g k).toInt.toNat := by
      intro k k1 k2
      have a := PX_le l (SRT_ub h k1 (by omega))
      have b := PX_le l (SRT_ub h k2 hj)
      refine ⟨by omega, ?_⟩
      by_cases e : i = k
      · rw [← e]; exact hli
      · have := SRT_len h hc (show i < k by omega) (by omega) hli (by omega)
        omega
    have up : ∀ k, i ≤ k → k + 1 ≤ j → l ≤ ALR f g k (k + 1) := by
      intro k k1 k2
      have a := same k k1 (by omega)
      have b := same (k + 1) (by omega) k2
      exact (ALR_spec f g k (k + 1)).2.2 l (by omega) (by rw [a.1, b.1])
    intro k k1 k2
    refine ⟨?_, (same k k1 k2).1⟩
    by_cases e : k = j
    · have q := up (k - 1) (by omega) (by omega)
      have q2 := COM_dn (f := f) (g := g) (c := c) (i := k - 1)
      rw [show k - 1 + 1 = k by omega] at q q2
      omega
    · have q := up k k1 (by omega)
      have q2 := COM_up (f := f) (g := g) (c := c) (i := k) (by omega)
      omega
  refine ⟨by omega, fun i hi => ?_, fun l i j hl he => PX_dn (show l ≤ l + 1 by omega) (by omega) he, fun l i j hij hj => PX_le l (SRT_ub h hij (by omega)), fun l i j h8 hij hj a b e => run l i j h8 hij (by omega) a b e, fun l i hi h1 hC => ?_, fun l i j hij hj hl hli => fst l i j hij (by omega) hl hli, fun i j => ?_⟩
  · have b := h.2 i (by omega)
    have c1 := COM_le f g c i
    refine ⟨c1, by show 1 ≤ (g i).toInt.toNat; omega, by show (g i).toInt.toNat ≤ 8; omega, ?_⟩
    apply Classical.byContradiction
    intro hn
    have e8 : (g i).toInt = 8 := by omega
    have cont : ∀ x y : Nat, x < y → (y : Int) < c → 8 ≤ (g x).toInt.toNat → 8 ≤ (g y).toInt.toNat → PX (ub (f x)) 8 = PX (ub (f y)) 8 → False := by
      intro x y hxy hy a b e
      have bx := h.2 x (by omega)
      have bz := h.2 y hy
      rw [PX_8, PX_8] at e
      rcases h.1 x y hxy hy with q | ⟨_, q⟩
      · omega
      · omega
    rcases nbr 8 i (by omega) (by omega) (by omega) with ⟨n1, n2, n3⟩ | ⟨n1, n2, n3⟩
    · exact cont (i - 1) i (by omega) (by omega) n2 (by omega) n3
    · exact cont i (i + 1) (by omega) n1 (by omega) n2 n3.symm
  · rcases nbr l i (by omega) h1 hC with ⟨n1, n2, n3⟩ | ⟨n1, n2, n3⟩
    · exact Or.inl ⟨n1, n2, n3⟩
    · exact Or.inr ⟨by omega, n2, n3⟩
  · show PX (ub (f i)) 0 = PX (ub (f j)) 0
    rw [PX_0 (ub_lt _), PX_0 (ub_lt _)]
/-! where a branch begins -/
theorem EST_iff {n : Nat} {C L : Nat → Nat} {P : Nat → Nat → Nat} (G : GRD n C L P) {l s i : Nat} (hs : NST n C P l s) (hg : ∀ k, s ≤ k → k ≤ i → l ≤ C k ∧ P l k = P l s) (hsi : s ≤ i) (hin : i < n) : EST n C P l i ↔ (L i = l ∨ i = s ∨ L (i - 1) = l ∨ P (l + 1) (i - 1) ≠ P (l + 1) i) := by
  obtain ⟨_, a, dn, _, run, _, _, _⟩ := G
  have ai := a i hin
  have gi := (hg i hsi (Nat.le_refl _)).1
  constructor
  · intro h
    apply Classical.byContradiction
    intro hn
    have n1 : ¬ L i = l := fun z => hn (Or.inl z)
    have n2 : ¬ i = s := fun z => hn (Or.inr (Or.inl z))
    have n3 : ¬ L (i - 1) = l := fun z => hn (Or.inr (Or.inr (Or.inl z)))
    have n4 : P (l + 1) (i - 1) = P (l + 1) i := Classical.byContradiction (fun z => hn (Or.inr (Or.inr (Or.inr z))))
    have gp := (hg (i - 1) (by omega) (by omega)).1
    have ap := a (i - 1) (by omega)
    have r1 := (run (l + 1) (i - 1) i (by omega) (by omega) hin (by omega) (by omega) n4 (i - 1) (Nat.le_refl _) (by omega)).1
    have r2 := (run (l + 1) (i - 1) i (by omega) (by omega) hin (by omega) (by omega) n4 i (by omega) (Nat.le_refl _)).1
    rcases h.2 with e | e
    · omega
    · rcases e.2.2 with z | z
      · omega
      · exact z ⟨r1, n4⟩
  · intro h
    refine ⟨hin, ?_⟩
    by_cases e : C i = l
    · exact Or.inl e
    · refine Or.inr ⟨hin, by omega, ?_⟩
      by_cases z : i = 0
      · exact Or.inl z
      · refine Or.inr (fun q => ?_)
        rcases h with h | h | h | h
        · omega
        · subst h
          rcases hs.2.2 with y | y
          · exact z y
          · exact y ⟨by omega, dn l (i - 1) i (by omega) q.2⟩
        · have ap := a (i - 1) (by omega)
          omega
        · exact h q.2
theorem END_first {n : Nat} {C L : Nat → Nat} {P : Nat → Nat → Nat} (G : GRD n C L P) {l s i : Nat} (hg : ∀ k, s ≤ k → k ≤ i → l ≤ C k ∧ P l k = P l s) (hsi : s ≤ i) (hin : i < n) (hL : L i = l) : i = s := by
  by_cases e : i = s
  · exact e
  · have as := G.2.1 s (by omega)
    have gs := (hg s (Nat.le_refl _) hsi).1
    exact absurd (hg i hsi (Nat.le_refl _)).2.symm (G.2.2.2.2.2.2.1 l s i (by omega) hin hL.symm (by omega))
/-! the nodes, as they are found -/
def NOD (n : Nat) (C : Nat → Nat) (P : Nat → Nat → Nat) (lv lf ls : Nat → Int32) (l i : Nat) : Prop := ∀ w x : Nat, w < 64 * l + i → IsN n C P w → (x : Int) = NB n C P w → (lv x).toInt = ((w / 64 : Nat) : Int) ∧ (lf x).toInt = ((w % 64 : Nat) : Int) ∧ ∃ e : Nat, (ls x).toInt = (e : Int) - ((w % 64 : Nat) : Int) ∧ GRQ n C P (w / 64) (w % 64) e (if w / 64 = l then i else n) ∧ (w / 64 = l → e ≤ i)
theorem NOD_skip {n : Nat} {C : Nat → Nat} {P : Nat → Nat → Nat} {lv lf ls : Nat → Int32} {l i : Nat} (h : NOD n C P lv lf ls l i) (hi : i < 64) (hc : C i < l) : NOD n C P lv lf ls l (i + 1) := by
  intro w x hw hN hx
  by_cases e : w = 64 * l + i
  · exfalso
    rw [e, IsN_at hi] at hN
    have := hN.2.1
    omega
  · obtain ⟨a, b, g, g1, g2, g3⟩ := h w x (by omega) hN hx
    refine ⟨a, b, g, g1, ?_, fun z => by have := g3 z; omega⟩
    by_cases z : w / 64 = l
    · rw [if_pos z] at g2 ⊢
      refine ⟨g2.1, g2.2.1, g2.2.2.1, fun q r => ?_⟩
      by_cases y : g < i
      · exact g2.2.2.2 y r
      · have k : g = i := by omega
        rw [k, z] at r
        omega
    · rw [if_neg z] at g2 ⊢
      exact g2
theorem NOD_new {n : Nat} {C : Nat → Nat} {P : Nat → Nat → Nat} {lv lf ls lv2 lf2 ls2 : Nat → Int32} {l i m : Nat} (h : NOD n C P lv lf ls l i) (hi : i < 64) (hs : NST n C P l i) (hm : (m : Int) = NB n C P (64 * l + i)) (old : ∀ x : Nat, x < m → lv2 x = lv x ∧ lf2 x = lf x ∧ ls2 x = ls x) (e1 : (lv2 m).toInt = (l : Int)) (e2 : (lf2 m).toInt = (i : Int)) (e3 : (ls2 m).toInt = 1) : NOD n C P lv2 lf2 ls2 l (i + 1) := by
  intro w x hw hN hx
  by_cases e : w = 64 * l + i
  · have ex : x = m := by rw [e] at hx; omega
    rw [e, ex, gd1 l hi, gd2 l hi]
    refine ⟨e1, e2, i + 1, by rw [e3]; omega, ?_, fun _ => Nat.le_refl _⟩
    rw [if_pos rfl]
    refine ⟨by omega, hs.1, fun k k1 k2 => ?_, fun q => by omega⟩
    rw [show k = i by omega]
    exact ⟨hs.2.1, rfl⟩
  · have lt : NB n C P w < NB n C P (64 * l + i) := CTP_lt (by omega) hN
    obtain ⟨o1, o2, o3⟩ := old x (by omega)
    obtain ⟨a, b, g, g1, g2, g3⟩ := h w x (by omega) hN hx
    rw [o1, o2, o3]
    refine ⟨a, b, g, g1, ?_, fun z => by have := g3 z; omega⟩
    by_cases z : w / 64 = l
    · rw [if_pos z] at g2 ⊢
      refine ⟨g2.1, g2.2.1, g2.2.2.1, fun q r => ?_⟩
      by_cases y : g < i
      · exact g2.2.2.2 y r
      · have k : g = i := by omega
        have g4 := g2.1
        have u := g2.2.2.1 (i - 1) (by omega) (by omega)
        rw [k] at r
        rw [z] at r u
        rcases hs.2.2 with t | t
        · omega
        · exact t ⟨u.1, by rw [u.2, r.2]⟩
    · rw [if_neg z] at g2 ⊢
      exact g2
theorem NOD_old {n : Nat} {C : Nat → Nat} {P : Nat → Nat → Nat} {lv lf ls ls2 : Nat → Int32} {l i m : Nat} (h : NOD n C P lv lf ls l i) (h64 : n ≤ 64) (hin : i < n) (hn : ¬ NST n C P l i) (hc : l ≤ C i) (hm : (m : Int) + 1 = NB n C P (64 * l + i)) (old : ∀ x : Nat, x ≠ m → ls2 x = ls x) (e3 : (ls2 m).toInt = (ls m).toInt + 1) : NOD n C P lv lf ls2 l (i + 1) := by
  have q0 : ¬ i = 0 := fun z => hn ⟨hin, hc, Or.inl z⟩
  have q : l ≤ C (i - 1) ∧ P l (i - 1) = P l i := Classical.byContradiction (fun z => hn ⟨hin, hc, Or.inr z⟩)
  obtain ⟨s, s1, s2, s3, s4⟩ := GRP_st (P := P) h64 (i - 1) (by omega) q.1
  rw [show 64 * l + (i - 1) + 1 = 64 * l + i by omega] at s3
  intro w x hw hN hx
  have ne : w ≠ 64 * l + i := by
    intro z
    rw [z, IsN_at (by omega)] at hN
    exact hn hN
  obtain ⟨a, b, g, g1, g2, g3⟩ := h w x (by omega) hN hx
  by_cases e : w = 64 * l + s
  · have ex : x = m := by rw [e] at hx; omega
    have w1 : w / 64 = l := by omega
    have w2 : w % 64 = s := by omega
    rw [w1] at a g2 g3
    rw [w2] at b g1 g2
    rw [w1, w2]
    rw [if_pos rfl] at g2
    have ge : g = i := by
      have h3 := g3 rfl
      by_cases y : g < i
      · have h1 := g2.1
        exact absurd (s4 g (by omega) (by omega)) (g2.2.2.2 y)
      · omega
    refine ⟨a, b, i + 1, by rw [ex, e3, ← ex, g1, ge]; omega, ?_, fun _ => Nat.le_refl _⟩
    rw [if_pos rfl]
    refine ⟨by omega, hin, fun k k1 k2 => ?_, fun z => by omega⟩
    by_cases y : k = i
    · rw [y]
      exact ⟨hc, by rw [← q.2]; exact (s4 (i - 1) s1 (Nat.le_refl _)).2⟩
    · exact s4 k k1 (by omega)
  · have nx : x ≠ m := by
      intro z
      refine e (CTP_inj (P := IsN n C P) hN ((IsN_at (by omega)).mpr s2) ?_)
      have t : NB n C P w = NB n C P (64 * l + s) := by omega
      exact t
    rw [old x nx]
    refine ⟨a, b, g, g1, ?_, fun z => by have := g3 z; omega⟩
    by_cases z : w / 64 = l
    · rw [if_pos z] at g2 ⊢
      refine ⟨g2.1, g2.2.1, g2.2.2.1, fun r t => ?_⟩
      by_cases y : g < i
      · exact g2.2.2.2 y t
      · have k : g = i := by have := g3 z; omega
        rw [k] at g2
        rw [z] at g2
        have hN2 : NST n C P l (w % 64) := by rw [← z]; exact hN
        have g4 := g2.1
        have one := NST_one hN2 s2 (i := i - 1) (by omega) s1 (fun t t1 t2 => g2.2.2.1 t t1 (by omega)) s4
        omega
    · rw [if_neg z] at g2 ⊢
      exact g2
theorem NB_end {n : Nat} {C : Nat → Nat} {P : Nat → Nat → Nat} (h : n ≤ 64) (l : Nat) : NB n C P (64 * (l + 1)) = NB n C P (64 * l + n) := CTP_st _ (by omega) (fun w p q r => by
  have := r.1
  omega)
theorem EB_end {n : Nat} {C : Nat → Nat} {P : Nat → Nat → Nat} (h : n ≤ 64) (l : Nat) : EB n C P (64 * (l + 1)) = EB n C P (64 * l + n) := CTP_st _ (by omega) (fun w p q r => by
  have := r.1
  omega)
theorem NOD_lev {n : Nat} {C : Nat → Nat} {P : Nat → Nat → Nat} {lv lf ls : Nat → Int32} {l : Nat} (h : NOD n C P lv lf ls l n) : NOD n C P lv lf ls (l + 1) 0 := by
  intro w x hw hN hx
  have b := hN.1
  obtain ⟨a, b, g, g1, g2, g3⟩ := h w x (by omega) hN hx
  refine ⟨a, b, g, g1, ?_, fun z => by omega⟩
  rw [if_neg (show ¬ w / 64 = l + 1 by omega)]
  by_cases z : w / 64 = l
  · rw [if_pos z] at g2
    exact g2
  · rw [if_neg z] at g2
    exact g2
/-! the leaves, read -/
def tn (X : bT1) : Nat := (b0g_count (b1g_owners X)).toInt.toNat
def tC (X : bT1) : Nat → Nat := COM (b0g_bytes (b1g_owners X)) (b0g_lengths (b1g_owners X)) (b0g_count (b1g_owners X)).toInt
def tL (X : bT1) : Nat → Nat := fun i => (b0g_lengths (b1g_owners X) i).toInt.toNat
def tP (X : bT1) : Nat → Nat → Nat := fun l i => PX (ub (b0g_bytes (b1g_owners X) i)) l
theorem tG {X : bT1} (o : LVO X) (j : J1 X) : GRD (tn X) (tC X) (tL X) (tP X) := GRD_of o.2.1 o.2.2.1 (J0g_count (J1g_owners j)).2
theorem tnn {X : bT1} (j : J1 X) : ((tn X : Nat) : Int) = (b0g_count (b1g_owners X)).toInt := by
  have := (J0g_count (J1g_owners j)).1
  unfold tn
  omega
theorem fx_lenAt {X : bT1} (o : LVO X) (j : J1 X) {a : Int32} {i : Nat} {Q : Int32 → Prop} (h0 : a.toInt = (i : Int)) (h1 : i < tn X) (hq : ∀ r : Int32, r.toInt = ((min (tC X i + 1) (tL X i) : Nat) : Int) → Q r) : wp_X1_lengthAt X a Q := by
  have jo := J0g_count (J1g_owners j)
  have t := tnn j
  have e : a.toInt.toNat = i := by omega
  unfold wp_X1_lengthAt
  refine fx_at64 (fun r p => hq r ?_)
  rw [p (by omega) (by omega)]
  have k := (o.1.2.2 i (by omega)).1.2.1
  show (b1g_lengths X a.toInt.toNat).toInt = _
  rw [e]
  exact k
theorem fx_endAt {X : bT1} (o : LVO X) (j : J1 X) {a : Int32} {i : Nat} {Q : Int32 → Prop} (h0 : a.toInt = (i : Int)) (h1 : i < tn X) (hq : ∀ r : Int32, (r = 0 ↔ ¬ tC X i = tL X i) → Q r) : wp_X1_isEnded X a Q := by
  have t := tnn j
  have ei : a.toInt.toNat = i := by omega
  refine fx_isEnded j (fun r _ p => hq r ?_)
  have e := (o.1.2.2 i (by omega)).1.1
  have b := o.2.1.2 i (by omega)
  rw [p (by omega) (by omega)]
  have k : b1g_commons X a.toNatClampNeg = b0g_lengths (b1g_owners X) a.toNatClampNeg ↔ tC X i = tL X i := by
    rw [← Int32.toInt_inj]
    show (b1g_commons X a.toInt.toNat).toInt = (b0g_lengths (b1g_owners X) a.toInt.toNat).toInt ↔ _
    rw [ei, e]
    unfold tC tL
    constructor
    · intro h
      show COM _ _ _ i = (b0g_lengths (b1g_owners X) i).toInt.toNat
      omega
    · intro h
      have h' : COM (b0g_bytes (b1g_owners X)) (b0g_lengths (b1g_owners X)) (b0g_count (b1g_owners X)).toInt i = (b0g_lengths (b1g_owners X) i).toInt.toNat := h
      omega
  rw [k]
theorem bxa (x y z : BitVec 64) : (x ^^^ y) &&& z = 0#64 ↔ x &&& z = y &&& z := by
  constructor
  · intro h
    apply BitVec.eq_of_getLsbD_eq
    intro i hi
    have q := congrArg (fun v => BitVec.getLsbD v i) h
    simp only [BitVec.getLsbD_and, BitVec.getLsbD_xor, BitVec.getLsbD_zero] at q ⊢
    revert q
    cases x.getLsbD i <;> cases y.getLsbD i <;> cases z.getLsbD i <;> decide
  · intro h
    apply BitVec.eq_of_getLsbD_eq
    intro i hi
    have q := congrArg (fun v => BitVec.getLsbD v i) h
    simp only [BitVec.getLsbD_and, BitVec.getLsbD_xor, BitVec.getLsbD_zero] at q ⊢
    revert q
    cases x.getLsbD i <;> cases y.getLsbD i <;> cases z.getLsbD i <;> decide
theorem lg0 (x : Int64) : lg_cmp x 0 = 0 ↔ x = 0 := by
  unfold lg_cmp
  by_cases h : x = 0
  · rw [h, if_neg (by decide), if_pos rfl]
    exact ⟨fun _ => rfl, fun _ => rfl⟩
  · by_cases g : x > 0
    · rw [if_pos g]
      exact ⟨fun q => absurd q (by decide), fun q => absurd q h⟩
    · rw [if_neg g, if_neg h]
      exact ⟨fun q => absurd q (by decide), fun q => absurd q h⟩
theorem xfr {a b F : Int64} {l : Int32} (h0 : 0 ≤ l.toInt) (h8 : l.toInt ≤ 8) (h1 : 1 ≤ l.toInt → l.toInt ≤ 8 → F = frontf l) (h2 : l.toInt ≤ 0 → F = 0) : lg_cmp ((a ^^^ b) &&& F) 0 = 0 ↔ PX (ub a) l.toInt.toNat = PX (ub b) l.toInt.toNat := by
  rw [lg0]
  by_cases z : l.toInt ≤ 0
  · rw [h2 z, show l.toInt.toNat = 0 by omega, PX_0 (ub_lt a), PX_0 (ub_lt b)]
    refine ⟨fun _ => rfl, fun _ => ?_⟩
    apply Int64.toBitVec_inj.mp
    show (a ^^^ b).toBitVec &&& 0#64 = 0#64
    exact BitVec.and_zero
  · have l1 : 1 ≤ l.toInt := by omega
    have e : (a ^^^ b) &&& F = 0 ↔ a &&& F = b &&& F := by
      rw [← Int64.toBitVec_inj, ← Int64.toBitVec_inj]
      exact bxa a.toBitVec b.toBitVec F.toBitVec
    rw [e, h1 l1 h8, and_front a l1 h8, and_front b l1 h8]
    have ca := ub_cut a l1 h8
    have cb := ub_cut b l1 h8
    have pos : 0 < 2 ^ (64 - 8 * l.toInt.toNat) := Nat.two_pow_pos _
    constructor
    · intro h
      rw [h] at ca
      exact Nat.eq_of_mul_eq_mul_right pos (by rw [← ca, ← cb])
    · intro h
      exact ub_inj (by rw [ca, cb, h])
def FR6 (T S : bT6) : Prop := b6g_edgeStarts T = b6g_edgeStarts S ∧ b6g_levelStarts T = b6g_levelStarts S ∧ b6g_levels T = b6g_levels S
theorem fx6_addNode {S : bT6} {a1 a2 : Int32} {m : Nat} {Q : bT6 → Prop} (hm : (b6g_nodes S).toInt = (m : Int)) (h : m < 232) (hq : ∀ u : bT6, (b6g_nodes u).toInt = (m : Int) + 1 → b6g_nodeLevels u = upd (b6g_nodeLevels S) m a1 → b6g_firstLeaves u = upd (b6g_firstLeaves S) m a2 → b6g_leafCounts u = upd (b6g_leafCounts S) m 0 → FR6 u S → Q u) : wp_X6_addNode S a1 a2 Q := by
  have em : (b6g_nodes S).toNatClampNeg = m := by
    show (b6g_nodes S).toInt.toNat = m
    omega
  unfold wp_X6_addNode
  refine ⟨fun c => ?_, fun _ => ⟨pt_in (by omega) (by omega), fun S1 e1 => ?_⟩⟩
  · simp only [pn] at c
    omega
  have n1 : b6g_nodes S1 = b6g_nodes S := by rw [e1]
  rw [n1]
  refine ⟨pt_in (by omega) (by omega), fun S2 e2 => ?_⟩
  have n2 : b6g_nodes S2 = b6g_nodes S := by rw [e2]; exact n1
  rw [n2]
  refine ⟨pt_in (by omega) (by omega), fun S3 e3 S4 e4 => ?_⟩
  have n3 : b6g_nodes S3 = b6g_nodes S := by rw [e3]; exact n2
  rw [em] at e1 e2 e3
  refine hq S4 ?_ (by rw [e4, e3, e2, e1]) (by rw [e4, e3, e2, e1]) (by rw [e4, e3, e2, e1]) (by rw [e4, e3, e2, e1]; exact ⟨rfl, rfl, rfl⟩)
  rw [e4]
  show (b6g_nodes S3 + 1).toInt = _
  rw [n3, pt_add (by rw [pl_1]; omega) (by rw [pl_1]; omega), pl_1, hm]
theorem fx6_findNodesOf {S : bT6 × bT1} {a1 : Int32} {l : Nat} {Q : (bT6 × bT1) → Prop} (o : LVO S.2) (j : J1 S.2) (hl : a1.toInt = (l : Int)) (h7 : l ≤ 7) (hn : (b6g_nodes S.1).toInt = NB (tn S.2) (tC S.2) (tP S.2) (64 * l)) (hN : NOD (tn S.2) (tC S.2) (tP S.2) (b6g_nodeLevels S.1) (b6g_firstLeaves S.1) (b6g_leafCounts S.1) l 0) (hq : ∀ u : bT6 × bT1, u.2 = S.2 → FR6 u.1 S.1 → (b6g_nodes u.1).toInt = NB (tn S.2) (tC S.2) (tP S.2) (64 * l + tn S.2) → NOD (tn S.2) (tC S.2) (tP S.2) (b6g_nodeLevels u.1) (b6g_firstLeaves u.1) (b6g_leafCounts u.1) l (tn S.2) → Q u) : wp_X6_findNodesOf S a1 Q := by
  have G := tG o j
  have jn := tnn j
  have g64 := G.1
  unfold wp_X6_findNodesOf wp_X6_findNodesOf_5
  refine ⟨fun k x1 x3 x4 V => ∃ i : Nat, x4.toInt = (i : Int) ∧ a1 = x1 ∧ V.2 = S.2 ∧ FR6 V.1 S.1 ∧ i ≤ tn S.2 ∧ (b6g_nodes V.1).toInt = NB (tn S.2) (tC S.2) (tP S.2) (64 * l + i) ∧ NOD (tn S.2) (tC S.2) (tP S.2) (b6g_nodeLevels V.1) (b6g_firstLeaves V.1) (b6g_leafCounts V.1) l i ∧ ((x3.toInt = -1 ∧ ∀ q, q < i → tC S.2 q < l) ∨ ∃ q : Nat, x3.toInt = (q : Int) ∧ q < i ∧ l ≤ tC S.2 q ∧ ∀ t, q < t → t < i → tC S.2 t < l) ∧ k = tn S.2 - i, ⟨_, 0, rfl, rfl, rfl, ⟨rfl, rfl, rfl⟩, Nat.zero_le _, hn, hN, Or.inl ⟨rfl, fun q hq => by omega⟩, rfl⟩, ?_⟩
  rintro k x1 x3 x4 V ⟨i, e4, rfl, eV, hf, hin, hm, hO, hlat, hk⟩
  suffices H : ∀ B : Int32 → Int32 → Int32 → (bT6 × bT1) → Prop, (∀ (z : Int32) (T : bT6 × bT1), T.2 = S.2 → FR6 T.1 S.1 → (b6g_nodes T.1).toInt = NB (tn S.2) (tC S.2) (tP S.2) (64 * l + (i + 1)) → NOD (tn S.2) (tC S.2) (tP S.2) (b6g_nodeLevels T.1) (b6g_firstLeaves T.1) (b6g_leafCounts T.1) l (i + 1) → ((z.toInt = -1 ∧ ∀ q, q < i + 1 → tC S.2 q < l) ∨ ∃ q : Nat, z.toInt = (q : Int) ∧ q < i + 1 ∧ l ≤ tC S.2 q ∧ ∀ t, q < t → t < i + 1 → tC S.2 t < l) → i < tn S.2 → B a1 z (x4 + 1) T) → wp_X6_findNodesOf_5b V a1 x3 x4 Q B from H _ (fun z T t1 t2 t3 t4 t5 hi => ⟨tn S.2 - (i + 1), by omega, i + 1, by rw [pt_add (by rw [pl_1]; omega) (by rw [pl_1]; omega), pl_1, e4]; omega, rfl, t1, t2, by omega, t3, t4, t5, rfl⟩)
  intro B hB
  unfold wp_X6_findNodesOf_5b wp_X1_count
  rw [eV]
  refine ⟨fun c => ?_, fun c => ?_⟩
  · simp only [pn] at c
    have e : i = tn S.2 := by omega
    rw [e] at hm hO
    exact hq V eV hf hm hO
  simp only [pn] at c
  have hi : i < tn S.2 := by omega
  have ai := G.2.1 i hi
  have nb := NB_le G h7 (i := i) (by omega)
  have skip : tC S.2 i < l → wp_X6_findNodesOf_47 V a1 x3 x4 Q B := by
    intro h
    unfold wp_X6_findNodesOf_47 wp_X6_findNodesOf_48 wp_X6_findNodesOf_134
    refine ⟨fun _ => hB x3 V eV hf ?_ (NOD_skip hO (by omega) h) ?_ hi, fun c => absurd rfl c⟩
    · rw [hm]
      exact (CTP_n (fun z => by have := ((IsN_at (by omega)).mp z).2.1; omega)).symm
    · rcases hlat with ⟨p1, p2⟩ | ⟨q, p1, p2, p3, p4⟩
      · refine Or.inl ⟨p1, fun q hq => ?_⟩
        by_cases y : q = i
        · rw [y]; exact h
        · exact p2 q (by omega)
      · refine Or.inr ⟨q, p1, by omega, p3, fun t t1 t2 => ?_⟩
        by_cases y : t = i
        · rw [y]; exact h
        · exact p4 t t1 (by omega)
  have yes : l ≤ tC S.2 i → wp_X6_findNodesOf_43 V a1 x3 x4 Q B := by
    intro hc
    have inc : ∀ T : bT6 × bT1, T.2 = S.2 → FR6 T.1 S.1 → 0 < (b6g_nodes T.1).toInt → (b6g_nodes T.1).toInt ≤ 232 → (b6g_nodes T.1).toInt = NB (tn S.2) (tC S.2) (tP S.2) (64 * l + (i + 1)) → (∀ ls2 : Nat → Int32, (∀ x : Nat, (x : Int) + 1 ≠ (b6g_nodes T.1).toInt → ls2 x = b6g_leafCounts T.1 x) → (∀ x : Nat, (x : Int) + 1 = (b6g_nodes T.1).toInt → ls2 x = b6g_leafCounts T.1 x + 1) → NOD (tn S.2) (tC S.2) (tP S.2) (b6g_nodeLevels T.1) (b6g_firstLeaves T.1) ls2 l (i + 1)) → wp_X6_findNodesOf_99 T a1 x4 Q B := by
      intro T t1 t2 t3 t4 t5 t6
      have es : (b6g_nodes T.1 - 1).toInt = (b6g_nodes T.1).toInt - 1 := by rw [pt_sub (by rw [pl_1]; omega) (by rw [pl_1]; omega), pl_1]
      have ec : (((b6g_nodes T.1 - 1).toNatClampNeg : Nat) : Int) = (b6g_nodes T.1).toInt - 1 := by rw [pt_clamp (by omega), es]
      unfold wp_X6_findNodesOf_99
      refine ⟨fun c => ?_, fun _ => ⟨fun c => ?_, fun _ => ⟨pt_in (by omega) (by omega), fun v1 ev => ⟨pt_in (by omega) (by omega), fun S2 e2 => ?_⟩⟩⟩⟩
      · simp only [pn] at c
        omega
      · simp only [pn] at c
        omega
      unfold wp_X6_findNodesOf_131 wp_X6_findNodesOf_134
      refine hB x4 S2 (by rw [e2]; exact t1) (by rw [e2]; exact t2) (by rw [e2]; exact t5) ?_ (Or.inr ⟨i, e4, by omega, hc, fun t a b => by omega⟩) hi
      rw [e2]
      refine t6 _ (fun x hx => up_n (by omega)) (fun x hx => ?_)
      have xe : x = (b6g_nodes T.1 - 1).toNatClampNeg := by omega
      rw [xe]
      show upd _ _ v1 _ = _
      rw [up_s, ev]
    have new : NST (tn S.2) (tC S.2) (tP S.2) l i → wp_X6_findNodesOf_92 V a1 x4 Q B := by
      intro hs
      obtain ⟨m, em⟩ : ∃ m : Nat, (b6g_nodes V.1).toInt = (m : Int) := ⟨(b6g_nodes V.1).toInt.toNat, by omega⟩
      have nx : NB (tn S.2) (tC S.2) (tP S.2) (64 * l + (i + 1)) = NB (tn S.2) (tC S.2) (tP S.2) (64 * l + i) + 1 := CTP_y ((IsN_at (by omega)).mpr hs)
      unfold wp_X6_findNodesOf_92
      refine fx6_addNode em (by omega) (fun u u1 u2 u3 u4 u5 S5 e5 => ?_)
      refine inc S5 (by rw [e5]; exact eV) (by rw [e5]; exact ⟨u5.1.trans hf.1, u5.2.1.trans hf.2.1, u5.2.2.trans hf.2.2⟩) (by rw [e5]; show 0 < (b6g_nodes u).toInt; omega) (by rw [e5]; show (b6g_nodes u).toInt ≤ 232; omega) (by rw [e5]; show (b6g_nodes u).toInt = _; rw [nx, u1, ← em, hm]) ?_
      rw [e5]
      intro ls2 p1 p2
      have p1' : ∀ x : Nat, (x : Int) + 1 ≠ (b6g_nodes u).toInt → ls2 x = b6g_leafCounts u x := p1
      have p2' : ∀ x : Nat, (x : Int) + 1 = (b6g_nodes u).toInt → ls2 x = b6g_leafCounts u x + 1 := p2
      show NOD _ _ _ (b6g_nodeLevels u) (b6g_firstLeaves u) ls2 l (i + 1)
      rw [u2, u3]
      refine NOD_new (m := m) hO (by omega) hs (by omega) (fun x hx => ?_) (by rw [up_s]; exact hl) (by rw [up_s]; exact e4) ?_
      · rw [up_n (by omega), up_n (by omega), p1' x (by omega), u4, up_n (by omega)]
        exact ⟨rfl, rfl, rfl⟩
      · rw [p2' m (by omega), u4, up_s]
        rfl
    have old : ¬ NST (tn S.2) (tC S.2) (tP S.2) l i → wp_X6_findNodesOf_99 V a1 x4 Q B := by
      intro hs
      have q0 : ¬ i = 0 := fun z => hs ⟨hi, hc, Or.inl z⟩
      have q : l ≤ tC S.2 (i - 1) ∧ tP S.2 l (i - 1) = tP S.2 l i := Classical.byContradiction (fun z => hs ⟨hi, hc, Or.inr z⟩)
      obtain ⟨s, s1, s2, s3, s4⟩ := GRP_st (P := tP S.2) g64 (i - 1) (by omega) q.1
      rw [show 64 * l + (i - 1) + 1 = 64 * l + i by omega] at s3
      have s5 := (NB_le G h7 (i := s) (by omega)).1
      have nx : NB (tn S.2) (tC S.2) (tP S.2) (64 * l + (i + 1)) = NB (tn S.2) (tC S.2) (tP S.2) (64 * l + i) := CTP_n (fun z => hs ((IsN_at (by omega)).mp z))
      refine inc V eV hf (by omega) (by omega) (by rw [nx]; exact hm) (fun ls2 p1 p2 => ?_)
      obtain ⟨m, em⟩ : ∃ m : Nat, (b6g_nodes V.1).toInt = (m : Int) + 1 := ⟨((b6g_nodes V.1).toInt - 1).toNat, by omega⟩
      refine NOD_old (m := m) hO g64 hi hs hc (by omega) (fun x hx => p1 x (by omega)) ?_
      obtain ⟨a, b, g, g1, g2, g3⟩ := hO (64 * l + s) m (by omega) ((IsN_at (by omega)).mpr s2) (by omega)
      have g4 := g2.2.1
      rw [p2 m (by omega), pt_add (by rw [pl_1]; omega) (by rw [pl_1]; omega), pl_1]
    unfold wp_X6_findNodesOf_43 wp_X6_findNodesOf_48
    refine ⟨fun c => absurd c (by decide), fun _ => ?_⟩
    rw [eV]
    refine fx_bytesAt (J1g_owners j) (fun r6 p6 _ => fx_bytesAt (J1g_owners j) (fun r8 p8 _ => ⟨fun c => new ?_, fun c => fx_front2 (fun r10 f1 f2 => ?_)⟩))
    · have c2 : x3.toInt = -1 := by rw [c]; rfl
      refine ⟨hi, hc, ?_⟩
      by_cases z : i = 0
      · exact Or.inl z
      · refine Or.inr (fun r => ?_)
        rcases hlat with ⟨_, p2⟩ | ⟨q, p1, _⟩
        · have := p2 (i - 1) (by omega)
          omega
        · omega
    · rcases hlat with ⟨p1, _⟩ | ⟨q, p1, p2, p3, p4⟩
      · exact absurd (Int32.toInt_inj.mp (p1.trans pl_m1.symm)) c
      · have k := xfr (a := r6) (b := r8) (l := a1) (by omega) (by omega) f1 f2
        have r6e : r6 = b0g_bytes (b1g_owners S.2) i := p6 i (by omega) (by omega)
        have r8e : r8 = b0g_bytes (b1g_owners S.2) q := p8 q (by omega) (by omega)
        have le : a1.toInt.toNat = l := by omega
        rw [r6e, r8e, le] at k
        rw [r6e, r8e]
        have k2 : PX (ub (b0g_bytes (b1g_owners S.2) i)) l = PX (ub (b0g_bytes (b1g_owners S.2) q)) l ↔ ¬ NST (tn S.2) (tC S.2) (tP S.2) l i := by
          constructor
          · intro h hs
            have run := G.2.2.2.2.1 l q i (by omega) p2 hi (by have := G.2.1 q (by omega); omega) (by omega) h.symm
            have qi : q = i - 1 := by
              apply Classical.byContradiction
              intro z
              have a := p4 (i - 1) (by omega) (by omega)
              have b := (run (i - 1) (by omega) (by omega)).1
              omega
            rcases hs.2.2 with y | y
            · omega
            · refine y ⟨by rw [← qi]; exact p3, ?_⟩
              rw [← qi]
              exact h.symm
          · intro h
            have q0 : ¬ i = 0 := fun z => h ⟨hi, hc, Or.inl z⟩
            have y : l ≤ tC S.2 (i - 1) ∧ tP S.2 l (i - 1) = tP S.2 l i := Classical.byContradiction (fun z => h ⟨hi, hc, Or.inr z⟩)
            have qi : q = i - 1 := by
              apply Classical.byContradiction
              intro z
              have a := p4 (i - 1) (by omega) (by omega)
              omega
            rw [qi]
            exact y.2.symm
        refine ⟨fun d => old (k2.mp (k.mp d)), fun d => new (Classical.byContradiction (fun z => d (k.mpr (k2.mpr z))))⟩
  refine fx_lenAt o j e4 hi (fun r14 e14 => ⟨fun c1 => yes ?_, fun c1 => fx_endAt o j e4 hi (fun r16 e16 => ⟨fun c2 => skip ?_, fun c2 => fx_lenAt o j e4 hi (fun r18 e18 => ⟨fun c3 => skip ?_, fun c3 => yes ?_⟩)⟩)⟩)
  · simp only [pn] at c1
    omega
  · simp only [pn] at c1
    have := e16.mp c2
    omega
  · have ce : tC S.2 i = tL S.2 i := Classical.byContradiction (fun z => c2 (e16.mpr z))
    simp only [pn] at c1 c3
    omega
  · have ce : tC S.2 i = tL S.2 i := Classical.byContradiction (fun z => c2 (e16.mpr z))
    simp only [pn] at c3
    omega
/-! levels -/
def LEVS (n : Nat) (C : Nat → Nat) (P : Nat → Nat → Nat) (v : Int) (l : Nat) : Prop := (v = 0 ∧ NB n C P (64 * l) = 0) ∨ ∃ q : Nat, v = (q : Int) + 1 ∧ q < l ∧ NB n C P (64 * q) < NB n C P (64 * (q + 1)) ∧ NB n C P (64 * (q + 1)) = NB n C P (64 * l)
theorem NB_mono {n : Nat} {C : Nat → Nat} {P : Nat → Nat → Nat} {a b : Nat} (h : a ≤ b) : NB n C P a ≤ NB n C P b := CTP_le b h
theorem EB_mono {n : Nat} {C : Nat → Nat} {P : Nat → Nat → Nat} {a b : Nat} (h : a ≤ b) : EB n C P a ≤ EB n C P b := CTP_le b h
theorem fx_atN {N : Nat} (hN : N < 2147483648) {f : Nat → Int32} {i : Int32} {m : Nat} {Q : Int32 → Prop} (h0 : i.toInt = (m : Int)) (h1 : m < N) (hq : Q (f m)) : wp_X8_at N f i Q := by
  have e : (Int32.ofNat N).toInt = (N : Int) := nI_toInt hN
  have em : i.toNatClampNeg = m := by
    show i.toInt.toNat = m
    omega
  unfold wp_X8_at
  rw [em]
  refine ⟨fun c => ?_, fun c => ⟨fun d => ?_, fun d => ⟨pt_in (by omega) (by omega), hq⟩⟩⟩
  · simp only [pn] at c
    omega
  · simp only [pn] at d
    omega
theorem fx6_findNodes {S : bT6 × bT1} {Q : (bT6 × bT1) → Prop} (o : LVO S.2) (j : J1 S.2) (hq : ∀ u : bT6 × bT1, u.2 = S.2 → b6g_edgeStarts u.1 = b6g_edgeStarts S.1 → (b6g_nodes u.1).toInt = NB (tn S.2) (tC S.2) (tP S.2) 512 → NOD (tn S.2) (tC S.2) (tP S.2) (b6g_nodeLevels u.1) (b6g_firstLeaves u.1) (b6g_leafCounts u.1) 8 0 → (∀ l : Nat, l ≤ 8 → (b6g_levelStarts u.1 l).toInt = NB (tn S.2) (tC S.2) (tP S.2) (64 * l)) → LEVS (tn S.2) (tC S.2) (tP S.2) (b6g_levels u.1).toInt 8 → Q u) : wp_X6_findNodes S Q := by
  have G := tG o j
  have g64 := G.1
  unfold wp_X6_findNodes
  intro S6 e6 S7 e7
  unfold wp_X6_findNodes_12
  refine ⟨fun k x2 V => ∃ l : Nat, x2.toInt = (l : Int) ∧ l ≤ 8 ∧ V.2 = S.2 ∧ b6g_edgeStarts V.1 = b6g_edgeStarts S.1 ∧ (b6g_nodes V.1).toInt = NB (tn S.2) (tC S.2) (tP S.2) (64 * l) ∧ NOD (tn S.2) (tC S.2) (tP S.2) (b6g_nodeLevels V.1) (b6g_firstLeaves V.1) (b6g_leafCounts V.1) l 0 ∧ (∀ m : Nat, m < l → (b6g_levelStarts V.1 m).toInt = NB (tn S.2) (tC S.2) (tP S.2) (64 * m)) ∧ LEVS (tn S.2) (tC S.2) (tP S.2) (b6g_levels V.1).toInt l ∧ k = 8 - l, ⟨_, 0, rfl, by omega, by rw [e7, e6], by rw [e7, e6], by rw [e7, e6]; rfl, fun w x hw => by omega, fun m hm => by omega, Or.inl ⟨by rw [e7]; rfl, rfl⟩, rfl⟩, ?_⟩
  rintro k x2 V ⟨l, e2, l8, eV, eE, hm, hO, hS, hL, hk⟩
  suffices H : ∀ B : Int32 → (bT6 × bT1) → Prop, (∀ T : bT6 × bT1, T.2 = S.2 → b6g_edgeStarts T.1 = b6g_edgeStarts S.1 → (b6g_nodes T.1).toInt = NB (tn S.2) (tC S.2) (tP S.2) (64 * (l + 1)) → NOD (tn S.2) (tC S.2) (tP S.2) (b6g_nodeLevels T.1) (b6g_firstLeaves T.1) (b6g_leafCounts T.1) (l + 1) 0 → (∀ m : Nat, m < l + 1 → (b6g_levelStarts T.1 m).toInt = NB (tn S.2) (tC S.2) (tP S.2) (64 * m)) → LEVS (tn S.2) (tC S.2) (tP S.2) (b6g_levels T.1).toInt (l + 1) → l < 8 → B (x2 + 1) T) → wp_X6_findNodes_12b V x2 Q B from H _ (fun T t1 t2 t3 t4 t5 t6 hl => ⟨8 - (l + 1), by omega, l + 1, by rw [pt_add (by rw [pl_1]; omega) (by rw [pl_1]; omega), pl_1, e2]; omega, by omega, t1, t2, t3, t4, t5, t6, rfl⟩)
  intro B hB
  have em : x2.toNatClampNeg = l := by
    show x2.toInt.toNat = l
    omega
  unfold wp_X6_findNodes_12b
  refine ⟨fun c => ⟨pt_in (by decide) (by decide), fun S1 e1 => ?_⟩, fun c => ?_⟩
  · simp only [pn] at c
    have l8' : l = 8 := by omega
    subst l8'
    refine hq S1 (by rw [e1]; exact eV) (by rw [e1]; exact eE) (by rw [e1]; exact hm) (by rw [e1]; exact hO) (fun m h => ?_) (by rw [e1]; exact hL)
    rw [e1]
    show (upd _ 8 _ m).toInt = _
    by_cases z : m = 8
    · rw [z, up_s]
      exact hm
    · rw [up_n z]
      exact hS m (by omega)
  simp only [pn] at c
  have hl : l ≤ 7 := by omega
  rw [em]
  refine ⟨pt_in (by omega) (by omega), fun S2 e2' => ?_⟩
  have s2 : S2.2 = S.2 := by rw [e2']; exact eV
  have f1 : b6g_nodes S2.1 = b6g_nodes V.1 := by rw [e2']
  have f2 : b6g_nodeLevels S2.1 = b6g_nodeLevels V.1 := by rw [e2']
  have f3 : b6g_firstLeaves S2.1 = b6g_firstLeaves V.1 := by rw [e2']
  have f4 : b6g_leafCounts S2.1 = b6g_leafCounts V.1 := by rw [e2']
  have f5 : b6g_edgeStarts S2.1 = b6g_edgeStarts V.1 := by rw [e2']
  have f6 : b6g_levels S2.1 = b6g_levels V.1 := by rw [e2']
  have f7 : b6g_levelStarts S2.1 = upd (b6g_levelStarts V.1) l (b6g_nodes V.1) := by rw [e2']
  refine fx6_findNodesOf (l := l) (by rw [s2]; exact o) (by rw [s2]; exact j) e2 hl (by rw [s2, f1]; exact hm) (by rw [s2, f2, f3, f4]; exact hO) (fun u u1 u2 u3 u4 => ?_)
  rw [s2] at u1 u3 u4
  have us : b6g_levelStarts u.1 = upd (b6g_levelStarts V.1) l (b6g_nodes V.1) := u2.2.1.trans f7
  have ue := u2.1.trans (f5.trans eE)
  have ul : b6g_levels u.1 = b6g_levels V.1 := u2.2.2.trans f6
  rw [← NB_end g64 l] at u3
  have mn := NB_mono (n := tn S.2) (C := tC S.2) (P := tP S.2) (show 64 * l ≤ 64 * (l + 1) by omega)
  have st : ∀ m : Nat, m < l + 1 → (b6g_levelStarts u.1 m).toInt = NB (tn S.2) (tC S.2) (tP S.2) (64 * m) := by
    intro m h
    rw [us]
    by_cases z : m = l
    · rw [z, up_s]
      exact hm
    · rw [up_n z]
      exact hS m (by omega)
  refine ⟨pt_in (by omega) (by omega), fun d => ?_, fun d S5 e5 => ?_⟩
  · rw [us, up_s] at d
    simp only [pn] at d
    unfold wp_X6_findNodes_54
    refine hB u u1 ue u3 (NOD_lev u4) st ?_ (by omega)
    rw [ul]
    rcases hL with ⟨a, b⟩ | ⟨q, a, b, c', d'⟩
    · exact Or.inl ⟨a, by omega⟩
    · exact Or.inr ⟨q, a, by omega, c', by omega⟩
  · rw [us, up_s] at d
    simp only [pn] at d
    unfold wp_X6_findNodes_54
    refine hB S5 (by rw [e5]; exact u1) (by rw [e5]; exact ue) (by rw [e5]; exact u3) (by rw [e5]; exact NOD_lev u4) (by rw [e5]; exact st) ?_ (by omega)
    refine Or.inr ⟨l, ?_, by omega, by omega, rfl⟩
    rw [e5]
    show (x2 + 1).toInt = _
    rw [pt_add (by rw [pl_1]; omega) (by rw [pl_1]; omega), pl_1, e2]
/-! edges -/
def OCV (f : Nat → Int64) (L : Nat → Nat) (w : Nat) : Int32 := if L (w % 64) = w / 64 then -1 else OCT (f (w % 64)) (nI (w / 64))
def EAR (n : Nat) (C L : Nat → Nat) (P : Nat → Nat → Nat) (f : Nat → Int64) (en eo el ec : Nat → Int32) (b : Nat) : Prop := ∀ w y : Nat, w < b → IsE n C P w → (y : Int) = EB n C P w → (en y).toInt = NB n C P (w + 1) - 1 ∧ eo y = OCV f L w ∧ (C (w % 64) = w / 64 → (el y).toInt = ((w % 64 : Nat) : Int)) ∧ (¬ C (w % 64) = w / 64 → (el y).toInt = -1) ∧ (ec y = -1 ↔ C (w % 64) = w / 64)
def FE6 (T S : bT6) : Prop := b6g_nodeLevels T = b6g_nodeLevels S ∧ b6g_firstLeaves T = b6g_firstLeaves S ∧ b6g_leafCounts T = b6g_leafCounts S ∧ b6g_edgeStarts T = b6g_edgeStarts S ∧ b6g_levelStarts T = b6g_levelStarts S ∧ b6g_nodes T = b6g_nodes S ∧ b6g_levels T = b6g_levels S
theorem FE6_tr {A B C : bT6} (h : FE6 A B) (g : FE6 B C) : FE6 A C := ⟨h.1.trans g.1, h.2.1.trans g.2.1, h.2.2.1.trans g.2.2.1, h.2.2.2.1.trans g.2.2.2.1, h.2.2.2.2.1.trans g.2.2.2.2.1, h.2.2.2.2.2.1.trans g.2.2.2.2.2.1, h.2.2.2.2.2.2.trans g.2.2.2.2.2.2⟩
theorem fx6_addEdge {S : bT6} {a1 a2 a3 : Int32} {m : Nat} {Q : bT6 → Prop} (hm : (b6g_edges S).toInt = (m : Int)) (h : m < 296) (hc0 : 0 ≤ (b6g_children S).toInt) (hc1 : (b6g_children S).toInt ≤ (m : Int)) (hq : ∀ (u : bT6) (v : Int32), (b6g_edges u).toInt = (m : Int) + 1 → b6g_edgeNodes u = upd (b6g_edgeNodes S) m a1 → b6g_edgeOctets u = upd (b6g_edgeOctets S) m a2 → b6g_edgeLeaves u = upd (b6g_edgeLeaves S) m a3 → b6g_edgeChildren u = upd (b6g_edgeChildren S) m v → (v = -1 ↔ ¬ a3 = -1) → 0 ≤ (b6g_children u).toInt → (b6g_children u).toInt ≤ (m : Int) + 1 → FE6 u S → Q u) : wp_X6_addEdge S a1 a2 a3 Q := by
  have em : (b6g_edges S).toNatClampNeg = m := by
    show (b6g_edges S).toInt.toNat = m
    omega
  have core : ∀ t2 : Int32, 0 ≤ t2.toInt → t2.toInt ≤ 1 → (a3 = -1 → t2.toInt = 1) → wp_X6_addEdge_25 S a1 a2 a3 (b6g_children S) t2 Q := by
    intro t2 t20 t21 t22
    have ct : (b6g_children S + t2).toInt = (b6g_children S).toInt + t2.toInt := pt_add (by omega) (by omega)
    unfold wp_X6_addEdge_25
    intro S3 e3
    have n3 : b6g_edges S3 = b6g_edges S := by rw [e3]
    rw [n3]
    refine ⟨pt_in (by omega) (by omega), fun S4 e4 => ?_⟩
    have n4 : b6g_edges S4 = b6g_edges S := by rw [e4]; exact n3
    rw [n4]
    refine ⟨pt_in (by omega) (by omega), fun S5 e5 => ?_⟩
    have n5 : b6g_edges S5 = b6g_edges S := by rw [e5]; exact n4
    rw [n5]
    refine ⟨pt_in (by omega) (by omega), fun S6 e6 => ?_⟩
    have n6 : b6g_edges S6 = b6g_edges S := by rw [e6]; exact n5
    have c6 : b6g_children S6 = b6g_children S + t2 := by rw [e6, e5, e4, e3]
    rw [em] at e4 e5 e6
    have fin : ∀ v : Int32, (v = -1 ↔ ¬ a3 = -1) → wp_X6_addEdge_80 S6 (b6g_edges S6) v Q := by
      intro v hv
      unfold wp_X6_addEdge_80
      rw [n6, em]
      refine ⟨pt_in (by omega) (by omega), fun S1 e1 S2 e2 => ?_⟩
      refine hq S2 v ?_ (by rw [e2, e1, e6, e5, e4, e3]) (by rw [e2, e1, e6, e5, e4, e3]) (by rw [e2, e1, e6, e5, e4, e3]) (by rw [e2, e1, e6, e5, e4, e3]) hv ?_ ?_ (by rw [e2, e1, e6, e5, e4, e3]; exact ⟨rfl, rfl, rfl, rfl, rfl, rfl, rfl⟩)
      · have k : b6g_edges S1 = b6g_edges S := by rw [e1]; exact n6
        rw [e2]
        show (b6g_edges S1 + 1).toInt = _
        rw [k, pt_add (by rw [pl_1]; omega) (by rw [pl_1]; omega), pl_1, hm]
      · have k : b6g_children S2 = b6g_children S + t2 := by rw [e2, e1]; exact c6
        rw [k, ct]
        omega
      · have k : b6g_children S2 = b6g_children S + t2 := by rw [e2, e1]; exact c6
        rw [k, ct]
        omega
    refine ⟨fun c => fin _ ⟨fun _ => c, fun _ => rfl⟩, fun c => fin _ ⟨fun z => ?_, fun z => absurd c z⟩⟩
    have z2 : (b6g_children S6).toInt = -1 := by rw [z]; rfl
    rw [c6, ct] at z2
    omega
  unfold wp_X6_addEdge
  refine ⟨fun c => ?_, fun _ => ⟨fun c => core 0 (by decide) (by decide) (fun z => absurd z c), fun c => core 1 (by decide) (by decide) (fun _ => rfl)⟩⟩
  simp only [pn] at c
  omega
theorem EAR_skip {n : Nat} {C L : Nat → Nat} {P : Nat → Nat → Nat} {f : Nat → Int64} {en eo el ec : Nat → Int32} {b d : Nat} (h : EAR n C L P f en eo el ec b) (hn : ∀ w, b ≤ w → w < d → ¬ IsE n C P w) : EAR n C L P f en eo el ec d := by
  intro w y hw hE hy
  by_cases z : w < b
  · exact h w y z hE hy
  · exact absurd hE (hn w (by omega) hw)
theorem EAR_add {n : Nat} {C L : Nat → Nat} {P : Nat → Nat → Nat} {f : Nat → Int64} {en eo el ec : Nat → Int32} {b m : Nat} {a1 a2 a3 v : Int32} (h : EAR n C L P f en eo el ec b) (hE : IsE n C P b) (hm : (m : Int) = EB n C P b) (h1 : a1.toInt = NB n C P (b + 1) - 1) (h2 : a2 = OCV f L b) (h3 : C (b % 64) = b / 64 → a3.toInt = ((b % 64 : Nat) : Int)) (h4 : ¬ C (b % 64) = b / 64 → a3.toInt = -1) (h5 : v = -1 ↔ ¬ a3 = -1) : EAR n C L P f (upd en m a1) (upd eo m a2) (upd el m a3) (upd ec m v) (b + 1) := by
  intro w y hw hE2 hy
  by_cases z : w = b
  · subst z
    have ey : y = m := by omega
    rw [ey, up_s, up_s, up_s, up_s]
    refine ⟨h1, h2, h3, h4, ?_⟩
    rw [h5]
    constructor
    · intro p
      apply Classical.byContradiction
      intro q
      exact p (Int32.toInt_inj.mp ((h4 q).trans pl_m1.symm))
    · intro p q
      have k := h3 p
      rw [q, pl_m1] at k
      omega
  · have lt : EB n C P w < EB n C P b := CTP_lt (by omega) hE2
    have ny : y ≠ m := by omega
    rw [up_n ny, up_n ny, up_n ny, up_n ny]
    exact h w y (by omega) hE2 hy
theorem NB_in {n : Nat} {C : Nat → Nat} {P : Nat → Nat → Nat} (h64 : n ≤ 64) {l s i : Nat} (hs : NST n C P l s) (hg : ∀ k, s ≤ k → k ≤ i → l ≤ C k ∧ P l k = P l s) (hsi : s ≤ i) (hin : i < n) : NB n C P (64 * l + i + 1) = NB n C P (64 * l + s) + 1 := by
  have hy : NB n C P (64 * l + s + 1) = NB n C P (64 * l + s) + 1 := CTP_y ((IsN_at (by omega)).mpr hs)
  rw [← hy]
  refine CTP_st _ (by omega) (fun w p q r => ?_)
  have ew : w = 64 * l + (w - 64 * l) := by omega
  rw [ew, IsN_at (by omega)] at r
  have a := hg (w - 64 * l) (by omega) (by omega)
  have b := hg (w - 64 * l - 1) (by omega) (by omega)
  rcases r.2.2 with t | t
  · omega
  · exact t ⟨b.1, by rw [b.2, a.2]⟩
theorem fx6_findEdgesOf {S : bT6 × bT1} {a1 : Int32} {l s e x : Nat} {Q : (bT6 × bT1) → Prop} (o : LVO S.2) (j : J1 S.2) (hx : a1.toInt = (x : Int)) (hx2 : x < 232) (hs : NST (tn S.2) (tC S.2) (tP S.2) l s) (hg : GRQ (tn S.2) (tC S.2) (tP S.2) l s e (tn S.2)) (hN : (x : Int) = NB (tn S.2) (tC S.2) (tP S.2) (64 * l + s)) (hl : (b6g_nodeLevels S.1 x).toInt = (l : Int)) (hf : (b6g_firstLeaves S.1 x).toInt = (s : Int)) (hc : (b6g_leafCounts S.1 x).toInt = (e : Int) - (s : Int)) (he : (b6g_edges S.1).toInt = EB (tn S.2) (tC S.2) (tP S.2) (64 * l + s)) (hA : EAR (tn S.2) (tC S.2) (tL S.2) (tP S.2) (b0g_bytes (b1g_owners S.2)) (b6g_edgeNodes S.1) (b6g_edgeOctets S.1) (b6g_edgeLeaves S.1) (b6g_edgeChildren S.1) (64 * l + s)) (h0 : 0 ≤ (b6g_children S.1).toInt) (h1 : (b6g_children S.1).toInt ≤ (b6g_edges S.1).toInt) (hq : ∀ u : bT6 × bT1, u.2 = S.2 → FE6 u.1 S.1 → (b6g_edges u.1).toInt = EB (tn S.2) (tC S.2) (tP S.2) (64 * l + e) → EAR (tn S.2) (tC S.2) (tL S.2) (tP S.2) (b0g_bytes (b1g_owners S.2)) (b6g_edgeNodes u.1) (b6g_edgeOctets u.1) (b6g_edgeLeaves u.1) (b6g_edgeChildren u.1) (64 * l + e) → 0 ≤ (b6g_children u.1).toInt → (b6g_children u.1).toInt ≤ (b6g_edges u.1).toInt → Q u) : wp_X6_findEdgesOf S a1 Q := by
  have G := tG o j
  have jn := tnn j
  have g64 := G.1
  have as := G.2.1 s hs.1
  have l7 : l ≤ 7 := by have := hs.2.1; omega
  have ge := hg.1
  have gn := hg.2.1
  unfold wp_X6_findEdgesOf
  refine fx_atN (by decide) hx hx2 (fx_atN (by decide) hx hx2 (fx_atN (by decide) hx hx2 ?_))
  obtain ⟨lv, elv⟩ : ∃ lv : Int32, lv = b6g_nodeLevels S.1 x := ⟨_, rfl⟩
  have hlv : lv.toInt = (l : Int) := by rw [elv]; exact hl
  have lvn : lv = nI l := Int32.toInt_inj.mp (by rw [nI_toInt (by omega)]; exact hlv)
  have hbe : (b6g_firstLeaves S.1 x + b6g_leafCounts S.1 x).toInt = (e : Int) := by rw [pt_add (by omega) (by omega)]; omega
  rw [← elv]
  unfold wp_X6_findEdgesOf_39
  refine ⟨fun k x1 x3 x5 x6 x7 V => ∃ i : Nat, x7.toInt = (i : Int) ∧ a1 = x1 ∧ lv = x3 ∧ x5.toInt = (e : Int) ∧ s ≤ i ∧ i ≤ e ∧ V.2 = S.2 ∧ FE6 V.1 S.1 ∧ (b6g_edges V.1).toInt = EB (tn S.2) (tC S.2) (tP S.2) (64 * l + i) ∧ EAR (tn S.2) (tC S.2) (tL S.2) (tP S.2) (b0g_bytes (b1g_owners S.2)) (b6g_edgeNodes V.1) (b6g_edgeOctets V.1) (b6g_edgeLeaves V.1) (b6g_edgeChildren V.1) (64 * l + i) ∧ 0 ≤ (b6g_children V.1).toInt ∧ (b6g_children V.1).toInt ≤ (b6g_edges V.1).toInt ∧ (i = s → x6 = -1) ∧ (s < i → (tL S.2 (i - 1) = l → x6 = -1) ∧ (¬ tL S.2 (i - 1) = l → x6 = OCT (b0g_bytes (b1g_owners S.2) (i - 1)) lv)) ∧ k = e - i, ⟨_, s, hf, rfl, rfl, hbe, Nat.le_refl _, by omega, rfl, ⟨rfl, rfl, rfl, rfl, rfl, rfl, rfl⟩, he, hA, h0, h1, fun _ => rfl, fun z => by omega, rfl⟩, ?_⟩
  rintro k x1 x3 x5 x6 x7 V ⟨i, e7, rfl, rfl, e5, hsi, hie, eV, hF, hE, hR, c0, c1, L1, L2, hk⟩
  suffices H : ∀ B : Int32 → Int32 → Int32 → Int32 → Int32 → (bT6 × bT1) → Prop, (∀ (z : Int32) (T : bT6 × bT1), T.2 = S.2 → FE6 T.1 S.1 → (b6g_edges T.1).toInt = EB (tn S.2) (tC S.2) (tP S.2) (64 * l + (i + 1)) → EAR (tn S.2) (tC S.2) (tL S.2) (tP S.2) (b0g_bytes (b1g_owners S.2)) (b6g_edgeNodes T.1) (b6g_edgeOctets T.1) (b6g_edgeLeaves T.1) (b6g_edgeChildren T.1) (64 * l + (i + 1)) → 0 ≤ (b6g_children T.1).toInt → (b6g_children T.1).toInt ≤ (b6g_edges T.1).toInt → (tL S.2 i = l → z = -1) → (¬ tL S.2 i = l → z = OCT (b0g_bytes (b1g_owners S.2) i) lv) → i < e → B a1 lv x5 z (x7 + 1) T) → wp_X6_findEdgesOf_39b V a1 lv x5 x6 x7 Q B from H _ (fun z T t1 t2 t3 t4 t5 t6 t7 t8 hi => ⟨e - (i + 1), by omega, i + 1, by rw [pt_add (by rw [pl_1]; omega) (by rw [pl_1]; omega), pl_1, e7]; omega, rfl, rfl, e5, by omega, by omega, t1, t2, t3, t4, t5, t6, fun y => by omega, fun _ => ⟨t7, t8⟩, rfl⟩)
  intro B hB
  unfold wp_X6_findEdgesOf_39b
  rw [eV]
  refine ⟨fun c => ?_, fun c => ?_⟩
  · simp only [pn] at c
    have ei : i = e := by omega
    rw [ei] at hE hR
    exact hq V eV hF hE hR c0 c1
  simp only [pn] at c
  have hi : i < e := by omega
  have hin : i < tn S.2 := by omega
  have ai := G.2.1 i hin
  have gi := hg.2.2.1 i hsi hi
  have grp : ∀ q, s ≤ q → q ≤ i → l ≤ tC S.2 q ∧ tP S.2 l q = tP S.2 l s := fun q q1 q2 => hg.2.2.1 q q1 (by omega)
  have iff := EST_iff G hs grp hsi hin
  have eb := EB_le G (w := 64 * l + i) (by omega)
  have nbi := NB_in g64 hs grp hsi hin
  obtain ⟨m, em⟩ : ∃ m : Nat, (b6g_edges V.1).toInt = (m : Int) := ⟨(b6g_edges V.1).toInt.toNat, by omega⟩
  have w1 : (64 * l + i) / 64 = l := gd1 l (by omega)
  have w2 : (64 * l + i) % 64 = i := gd2 l (by omega)
  have add : ∀ (a2 a3 z : Int32), EST (tn S.2) (tC S.2) (tP S.2) l i → a2 = OCV (b0g_bytes (b1g_owners S.2)) (tL S.2) (64 * l + i) → (tC S.2 i = l → a3.toInt = (i : Int)) → (¬ tC S.2 i = l → a3.toInt = -1) → (tL S.2 i = l → z = -1) → (¬ tL S.2 i = l → z = OCT (b0g_bytes (b1g_owners S.2) i) lv) → wp_X6_addEdge V.1 a1 a2 a3 (fun u => ∀ S3 : bT6 × bT1, S3 = (u, V.2) → B a1 lv x5 z (x7 + 1) S3) := by
    intro a2 a3 z hEST ha2 ha3 ha4 hz1 hz2
    have hIs : IsE (tn S.2) (tC S.2) (tP S.2) (64 * l + i) := (IsE_at (by omega)).mpr hEST
    refine fx6_addEdge em (by omega) c0 (by omega) (fun u v u1 u2 u3 u4 u5 u6 u7 u8 u9 S3 e3 => ?_)
    have nx : EB (tn S.2) (tC S.2) (tP S.2) (64 * l + (i + 1)) = EB (tn S.2) (tC S.2) (tP S.2) (64 * l + i) + 1 := CTP_y hIs
    refine hB z S3 (by rw [e3]; exact eV) (by rw [e3]; exact FE6_tr u9 hF) (by rw [e3]; show (b6g_edges u).toInt = _; omega) ?_ (by rw [e3]; exact u7) (by rw [e3]; show (b6g_children u).toInt ≤ (b6g_edges u).toInt; omega) hz1 hz2 hi
    rw [e3]
    show EAR _ _ _ _ _ (b6g_edgeNodes u) (b6g_edgeOctets u) (b6g_edgeLeaves u) (b6g_edgeChildren u) (64 * l + i + 1)
    rw [u2, u3, u4, u5]
    refine EAR_add hR hIs (by omega) (by rw [nbi]; omega) ha2 (fun y => ?_) (fun y => ?_) u6
    · rw [w1, w2] at y
      rw [w2]
      exact ha3 y
    · rw [w1, w2] at y
      exact ha4 y
  refine fx_lenAt o j e7 hin (fun r4 e4 => ⟨fun c4 => ?_, fun c4 => ?_⟩)
  · simp only [pn] at c4
    have nL : ¬ tL S.2 i = l := by omega
    refine fx_bytesAt (J1g_owners j) (fun r6 p6 _ => fx_octetAt (fun r8 p8 _ => ?_))
    have r6e : r6 = b0g_bytes (b1g_owners S.2) i := p6 i (by omega) (by omega)
    have r8e : r8 = OCT (b0g_bytes (b1g_owners S.2) i) lv := by rw [p8 (by omega) (by omega), r6e]
    have ro := OCT_rng (b0g_bytes (b1g_owners S.2) i) (i := lv) (by omega) (by omega)
    rw [← r8e] at ro
    have key : r8 = x6 ↔ ¬ EST (tn S.2) (tC S.2) (tP S.2) l i := by
      rw [iff]
      by_cases z : i = s
      · have x6e := L1 z
        constructor
        · intro y
          rw [y, x6e, pl_m1] at ro
          omega
        · intro y
          exact absurd (Or.inr (Or.inl z)) y
      · obtain ⟨q1, q2⟩ := L2 (by omega)
        by_cases y : tL S.2 (i - 1) = l
        · have x6e := q1 y
          constructor
          · intro t
            rw [t, x6e, pl_m1] at ro
            omega
          · intro t
            exact absurd (Or.inr (Or.inr (Or.inl y))) t
        · have x6e := q2 y
          have pe : PX (ub (b0g_bytes (b1g_owners S.2) i)) lv.toInt.toNat = PX (ub (b0g_bytes (b1g_owners S.2) (i - 1))) lv.toInt.toNat := by
            rw [show lv.toInt.toNat = l by omega]
            have a := (grp i hsi (Nat.le_refl _)).2
            have b := (grp (i - 1) (by omega) (by omega)).2
            exact a.trans b.symm
          have oe := OCT_eq (i := lv) (by omega) (by omega) pe
          rw [show lv.toInt.toNat = l by omega] at oe
          rw [r8e, x6e, oe]
          constructor
          · intro t
            rintro (t2 | t2 | t2 | t2)
            · exact nL t2
            · exact z t2
            · exact y t2
            · exact t2 t.symm
          · intro t
            apply Classical.byContradiction
            intro t2
            exact t (Or.inr (Or.inr (Or.inr (fun t3 => t2 t3.symm))))
    refine ⟨fun d => ?_, fun d => ?_⟩
    · unfold wp_X6_findEdgesOf_135 wp_X6_findEdgesOf_139
      have hne := key.mp d
      have hIs : ¬ IsE (tn S.2) (tC S.2) (tP S.2) (64 * l + i) := fun t => hne ((IsE_at (by omega)).mp t)
      have nx : EB (tn S.2) (tC S.2) (tP S.2) (64 * l + (i + 1)) = EB (tn S.2) (tC S.2) (tP S.2) (64 * l + i) := CTP_n hIs
      refine hB r8 V eV hF (by rw [nx]; exact hE) (EAR_skip hR (fun w t1 t2 => ?_)) c0 c1 (fun t => absurd t nL) (fun _ => r8e) hi
      rw [show w = 64 * l + i by omega]
      exact hIs
    · have hEST : EST (tn S.2) (tC S.2) (tP S.2) l i := Classical.byContradiction (fun t => d (key.mpr t))
      have hov : r8 = OCV (b0g_bytes (b1g_owners S.2)) (tL S.2) (64 * l + i) := by
        unfold OCV
        rw [w1, w2, if_neg nL, r8e, lvn]
      have no : ¬ tC S.2 i = l → wp_X6_findEdgesOf_114 V a1 lv x5 x7 r8 Q B := by
        intro t
        unfold wp_X6_findEdgesOf_114 wp_X6_findEdgesOf_115 wp_X6_findEdgesOf_132 wp_X6_findEdgesOf_135 wp_X6_findEdgesOf_139
        exact ⟨fun _ => add r8 (-1) r8 hEST hov (fun t2 => absurd t2 t) (fun _ => rfl) (fun t2 => absurd t2 nL) (fun _ => r8e), fun t2 => absurd rfl t2⟩
      have yes : tC S.2 i = l → wp_X6_findEdgesOf_115 V a1 lv x5 x7 r8 1 Q B := by
        intro t
        unfold wp_X6_findEdgesOf_115 wp_X6_findEdgesOf_132 wp_X6_findEdgesOf_135 wp_X6_findEdgesOf_139
        exact ⟨fun t2 => absurd t2 (by decide), fun _ => add r8 x7 r8 hEST hov (fun _ => e7) (fun t2 => absurd t t2) (fun t2 => absurd t2 nL) (fun _ => r8e)⟩
      have lv1 : (lv + 1).toInt = (l : Int) + 1 := by rw [pt_add (by rw [pl_1]; omega) (by rw [pl_1]; omega), pl_1, hlv]
      refine fx_lenAt o j e7 hin (fun r10 e10 => ⟨fun c10 => no ?_, fun c10 => fx_endAt o j e7 hin (fun r12 e12 => ⟨fun c12 => no ?_, fun c12 => yes ?_⟩)⟩)
      · simp only [pn] at c10
        omega
      · have ce : tC S.2 i = tL S.2 i := Classical.byContradiction (fun z => c12 (e12.mpr z))
        omega
      · have ce := e12.mp c12
        simp only [pn] at c10
        omega
  · simp only [pn] at c4
    have hL : tL S.2 i = l := by omega
    have is := END_first G grp hsi hin hL
    have hC : tC S.2 i = l := by omega
    have hEST : EST (tn S.2) (tC S.2) (tP S.2) l i := ⟨hin, Or.inl hC⟩
    unfold wp_X6_findEdgesOf_139
    have q := add (-1) x7 x6 hEST (by unfold OCV; rw [w1, w2, if_pos hL]) (fun _ => e7) (fun t => absurd hC t) (fun _ => L1 is) (fun t => absurd hL t)
    rw [eV] at q
    exact q
/-! all edges: the nodes one behind the other -/
theorem NB_grp {n : Nat} {C : Nat → Nat} {P : Nat → Nat → Nat} (h64 : n ≤ 64) {l s e : Nat} (hs : NST n C P l s) (hg : GRQ n C P l s e n) : NB n C P (64 * l + e) = NB n C P (64 * l + s) + 1 := by
  have a := hg.1
  have b := hg.2.1
  have k := NB_in h64 hs (i := e - 1) (fun k k1 k2 => hg.2.2.1 k k1 (by omega)) (by omega) (by omega)
  rw [show 64 * l + (e - 1) + 1 = 64 * l + e by omega] at k
  exact k
theorem fx6_findEdges {S : bT6 × bT1} {Q : (bT6 × bT1) → Prop} (o : LVO S.2) (j : J1 S.2) (hm : (b6g_nodes S.1).toInt = NB (tn S.2) (tC S.2) (tP S.2) 512) (hO : NOD (tn S.2) (tC S.2) (tP S.2) (b6g_nodeLevels S.1) (b6g_firstLeaves S.1) (b6g_leafCounts S.1) 8 0) (hb : ∀ y : Nat, -1 ≤ (b6g_edgeStarts S.1 y).toInt ∧ (b6g_edgeStarts S.1 y).toInt ≤ 296) (hq : ∀ u : bT6 × bT1, u.2 = S.2 → b6g_nodeLevels u.1 = b6g_nodeLevels S.1 → b6g_firstLeaves u.1 = b6g_firstLeaves S.1 → b6g_leafCounts u.1 = b6g_leafCounts S.1 → b6g_levelStarts u.1 = b6g_levelStarts S.1 → b6g_nodes u.1 = b6g_nodes S.1 → b6g_levels u.1 = b6g_levels S.1 → (∀ y : Nat, -1 ≤ (b6g_edgeStarts u.1 y).toInt ∧ (b6g_edgeStarts u.1 y).toInt ≤ 296) → (∀ w y : Nat, w < 512 → IsN (tn S.2) (tC S.2) (tP S.2) w → (y : Int) = NB (tn S.2) (tC S.2) (tP S.2) w → (b6g_edgeStarts u.1 y).toInt = EB (tn S.2) (tC S.2) (tP S.2) w) → (∀ y : Nat, (y : Int) = NB (tn S.2) (tC S.2) (tP S.2) 512 → (b6g_edgeStarts u.1 y).toInt = EB (tn S.2) (tC S.2) (tP S.2) 512) → (b6g_edges u.1).toInt = EB (tn S.2) (tC S.2) (tP S.2) 512 → EAR (tn S.2) (tC S.2) (tL S.2) (tP S.2) (b0g_bytes (b1g_owners S.2)) (b6g_edgeNodes u.1) (b6g_edgeOctets u.1) (b6g_edgeLeaves u.1) (b6g_edgeChildren u.1) 512 → Q u) : wp_X6_findEdges S Q := by
  have G := tG o j
  have g64 := G.1
  have nb512 := NB_le G (l := 7) (i := 64) (by omega) (by omega)
  have nb5 : NB (tn S.2) (tC S.2) (tP S.2) (64 * 7 + 64) = NB (tn S.2) (tC S.2) (tP S.2) 512 := rfl
  -- the place of node x
  have pos : ∀ (x b : Nat), b ≤ 512 → (x : Int) = NB (tn S.2) (tC S.2) (tP S.2) b → ∃ p : Nat, b ≤ p ∧ p ≤ 512 ∧ (x : Int) = NB (tn S.2) (tC S.2) (tP S.2) p ∧ ((x : Int) < NB (tn S.2) (tC S.2) (tP S.2) 512 → p < 512 ∧ IsN (tn S.2) (tC S.2) (tP S.2) p) ∧ (¬ (x : Int) < NB (tn S.2) (tC S.2) (tP S.2) 512 → p = 512) ∧ ∀ w, b ≤ w → w < p → ¬ IsN (tn S.2) (tC S.2) (tP S.2) w := by
    intro x b hb hx
    by_cases z : (x : Int) < NB (tn S.2) (tC S.2) (tP S.2) 512
    · obtain ⟨p, p1, p2, p3⟩ := CTP_inv (P := IsN (tn S.2) (tC S.2) (tP S.2)) (e := (x : Int)) (by omega) 512 z
      have p3' : NB (tn S.2) (tC S.2) (tP S.2) p = (x : Int) := p3
      have bp : b ≤ p := by
        apply Classical.byContradiction
        intro t
        have := CTP_lt (P := IsN (tn S.2) (tC S.2) (tP S.2)) (show p < b by omega) p2
        have t2 : NB (tn S.2) (tC S.2) (tP S.2) p < NB (tn S.2) (tC S.2) (tP S.2) b := this
        omega
      refine ⟨p, bp, by omega, by omega, fun _ => ⟨p1, p2⟩, fun t => absurd z t, fun w w1 w2 w3 => ?_⟩
      have a : NB (tn S.2) (tC S.2) (tP S.2) w < NB (tn S.2) (tC S.2) (tP S.2) p := CTP_lt w2 w3
      have c := NB_mono (n := tn S.2) (C := tC S.2) (P := tP S.2) w1
      omega
    · have mn := NB_mono (n := tn S.2) (C := tC S.2) (P := tP S.2) hb
      refine ⟨512, hb, Nat.le_refl _, by omega, fun t => absurd t z, fun _ => rfl, fun w w1 w2 w3 => ?_⟩
      have a : NB (tn S.2) (tC S.2) (tP S.2) w < NB (tn S.2) (tC S.2) (tP S.2) 512 := CTP_lt w2 w3
      have c := NB_mono (n := tn S.2) (C := tC S.2) (P := tP S.2) w1
      omega
  obtain ⟨p0, q1, q2, q3, q4, q5, q6⟩ := pos 0 0 (by omega) rfl
  have z0E : EB (tn S.2) (tC S.2) (tP S.2) p0 = 0 := EB_gap g64 (l := 0) (e := 0) (by omega) (fun a b => ⟨a, b, Or.inl rfl⟩) (by omega) (fun w a b => q6 w (by omega) b)
  unfold wp_X6_findEdges
  intro S5 e5 S6 e6
  unfold wp_X6_findEdges_12
  refine ⟨fun k x2 V => ∃ x p : Nat, x2.toInt = (x : Int) ∧ (x : Int) ≤ NB (tn S.2) (tC S.2) (tP S.2) 512 ∧ V.2 = S.2 ∧ b6g_nodeLevels V.1 = b6g_nodeLevels S.1 ∧ b6g_firstLeaves V.1 = b6g_firstLeaves S.1 ∧ b6g_leafCounts V.1 = b6g_leafCounts S.1 ∧ b6g_levelStarts V.1 = b6g_levelStarts S.1 ∧ b6g_nodes V.1 = b6g_nodes S.1 ∧ b6g_levels V.1 = b6g_levels S.1 ∧ (∀ y : Nat, -1 ≤ (b6g_edgeStarts V.1 y).toInt ∧ (b6g_edgeStarts V.1 y).toInt ≤ 296) ∧ p ≤ 512 ∧ (x : Int) = NB (tn S.2) (tC S.2) (tP S.2) p ∧ ((x : Int) < NB (tn S.2) (tC S.2) (tP S.2) 512 → p < 512 ∧ IsN (tn S.2) (tC S.2) (tP S.2) p) ∧ (¬ (x : Int) < NB (tn S.2) (tC S.2) (tP S.2) 512 → p = 512) ∧ (∀ w y : Nat, w < p → IsN (tn S.2) (tC S.2) (tP S.2) w → (y : Int) = NB (tn S.2) (tC S.2) (tP S.2) w → (b6g_edgeStarts V.1 y).toInt = EB (tn S.2) (tC S.2) (tP S.2) w) ∧ (b6g_edges V.1).toInt = EB (tn S.2) (tC S.2) (tP S.2) p ∧ EAR (tn S.2) (tC S.2) (tL S.2) (tP S.2) (b0g_bytes (b1g_owners S.2)) (b6g_edgeNodes V.1) (b6g_edgeOctets V.1) (b6g_edgeLeaves V.1) (b6g_edgeChildren V.1) p ∧ 0 ≤ (b6g_children V.1).toInt ∧ (b6g_children V.1).toInt ≤ (b6g_edges V.1).toInt ∧ k = 232 - x, ⟨_, 0, p0, rfl, by omega, by rw [e6, e5], by rw [e6, e5], by rw [e6, e5], by rw [e6, e5], by rw [e6, e5], by rw [e6, e5], by rw [e6, e5], by rw [e6, e5]; exact hb, q2, q3, q4, q5, fun w y w1 w2 => absurd w2 (q6 w (by omega) w1), by rw [e6, e5, z0E]; rfl, fun w y w1 w2 w3 => ?_, by rw [e6]; exact (by decide : (0 : Int) ≤ ((0 : Int32)).toInt), by rw [e6, e5]; exact (by decide : ((0 : Int32)).toInt ≤ ((0 : Int32)).toInt), rfl⟩, ?_⟩
  · have a : EB (tn S.2) (tC S.2) (tP S.2) w < EB (tn S.2) (tC S.2) (tP S.2) p0 := CTP_lt w1 w2
    have b := (EB_le G (w := w) (by omega)).1
    omega
  rintro k x2 V ⟨x, p, e2, xm, eV, f1, f2, f3, f4, f5, f6, fb, p512, px, pN, pE, sE, hE, hR, c0, c1, hk⟩
  suffices H : ∀ B : Int32 → (bT6 × bT1) → Prop, (∀ (T : bT6 × bT1) (p' : Nat), T.2 = S.2 → b6g_nodeLevels T.1 = b6g_nodeLevels S.1 → b6g_firstLeaves T.1 = b6g_firstLeaves S.1 → b6g_leafCounts T.1 = b6g_leafCounts S.1 → b6g_levelStarts T.1 = b6g_levelStarts S.1 → b6g_nodes T.1 = b6g_nodes S.1 → b6g_levels T.1 = b6g_levels S.1 → (∀ y : Nat, -1 ≤ (b6g_edgeStarts T.1 y).toInt ∧ (b6g_edgeStarts T.1 y).toInt ≤ 296) → p' ≤ 512 → ((x + 1 : Nat) : Int) = NB (tn S.2) (tC S.2) (tP S.2) p' → (((x + 1 : Nat) : Int) < NB (tn S.2) (tC S.2) (tP S.2) 512 → p' < 512 ∧ IsN (tn S.2) (tC S.2) (tP S.2) p') → (¬ ((x + 1 : Nat) : Int) < NB (tn S.2) (tC S.2) (tP S.2) 512 → p' = 512) → (∀ w y : Nat, w < p' → IsN (tn S.2) (tC S.2) (tP S.2) w → (y : Int) = NB (tn S.2) (tC S.2) (tP S.2) w → (b6g_edgeStarts T.1 y).toInt = EB (tn S.2) (tC S.2) (tP S.2) w) → (b6g_edges T.1).toInt = EB (tn S.2) (tC S.2) (tP S.2) p' → EAR (tn S.2) (tC S.2) (tL S.2) (tP S.2) (b0g_bytes (b1g_owners S.2)) (b6g_edgeNodes T.1) (b6g_edgeOctets T.1) (b6g_edgeLeaves T.1) (b6g_edgeChildren T.1) p' → 0 ≤ (b6g_children T.1).toInt → (b6g_children T.1).toInt ≤ (b6g_edges T.1).toInt → (x : Int) < NB (tn S.2) (tC S.2) (tP S.2) 512 → B (x2 + 1) T) → wp_X6_findEdges_12b V x2 Q B from H _ (fun T p' t1 t2 t3 t4 t5 t6 t7 t8 t9 t10 t11 t12 t13 t14 t15 t16 t17 hx => ⟨232 - (x + 1), by omega, x + 1, p', by rw [pt_add (by rw [pl_1]; omega) (by rw [pl_1]; omega), pl_1, e2]; omega, by omega, t1, t2, t3, t4, t5, t6, t7, t8, t9, t10, t11, t12, t13, t14, t15, t16, t17, rfl⟩)
  intro B hB
  have em : x2.toNatClampNeg = x := by
    show x2.toInt.toNat = x
    omega
  have ebp := EB_le G (w := p) p512
  unfold wp_X6_findEdges_12b
  rw [f5]
  refine ⟨fun c => ?_, fun c => ?_⟩
  · simp only [pn] at c
    have p5 := pE (by omega)
    subst p5
    have enm : (b6g_nodes S.1).toNatClampNeg = x := by
      show (b6g_nodes S.1).toInt.toNat = x
      omega
    refine ⟨pt_in (by omega) (by omega), fun S1 e1 => ?_⟩
    rw [enm] at e1
    refine hq S1 (by rw [e1]; exact eV) (by rw [e1]; exact f1) (by rw [e1]; exact f2) (by rw [e1]; exact f3) (by rw [e1]; exact f4) (by rw [e1]; exact f5) (by rw [e1]; exact f6) (fun y => ?_) (fun w y w1 w2 w3 => ?_) (fun y w3 => ?_) (by rw [e1]; exact hE) (by rw [e1]; exact hR)
    · rw [e1]
      show -1 ≤ (upd _ _ _ y).toInt ∧ (upd _ _ _ y).toInt ≤ 296
      by_cases z : y = x
      · rw [z, up_s]; omega
      · rw [up_n z]; exact fb y
    · rw [e1]
      show (upd _ _ _ y).toInt = _
      have lt : NB (tn S.2) (tC S.2) (tP S.2) w < NB (tn S.2) (tC S.2) (tP S.2) 512 := CTP_lt w1 w2
      rw [up_n (by omega)]
      exact sE w y w1 w2 w3
    · rw [e1]
      show (upd _ _ _ y).toInt = _
      rw [show y = x by omega, up_s]
      exact hE
  simp only [pn] at c
  obtain ⟨pl, pI⟩ := pN (by omega)
  rw [em]
  refine ⟨pt_in (by omega) (by omega), fun S2 e2' => ?_⟩
  have s2 : S2.2 = S.2 := by rw [e2']; exact eV
  have d1 : b6g_nodeLevels S2.1 = b6g_nodeLevels S.1 := by rw [e2']; exact f1
  have d2 : b6g_firstLeaves S2.1 = b6g_firstLeaves S.1 := by rw [e2']; exact f2
  have d3 : b6g_leafCounts S2.1 = b6g_leafCounts S.1 := by rw [e2']; exact f3
  have d4 : b6g_levelStarts S2.1 = b6g_levelStarts S.1 := by rw [e2']; exact f4
  have d5 : b6g_nodes S2.1 = b6g_nodes S.1 := by rw [e2']; exact f5
  have d6 : b6g_levels S2.1 = b6g_levels S.1 := by rw [e2']; exact f6
  have d7 : b6g_edgeStarts S2.1 = upd (b6g_edgeStarts V.1) x (b6g_edges V.1) := by rw [e2']
  have d8 : b6g_edges S2.1 = b6g_edges V.1 := by rw [e2']
  have d9 : b6g_edgeNodes S2.1 = b6g_edgeNodes V.1 := by rw [e2']
  have d10 : b6g_edgeOctets S2.1 = b6g_edgeOctets V.1 := by rw [e2']
  have d11 : b6g_edgeLeaves S2.1 = b6g_edgeLeaves V.1 := by rw [e2']
  have d12 : b6g_edgeChildren S2.1 = b6g_edgeChildren V.1 := by rw [e2']
  have d13 : b6g_children S2.1 = b6g_children V.1 := by rw [e2']
  obtain ⟨a, b, e, g1, g2, g3⟩ := hO p x (by omega) pI px
  rw [if_neg (show ¬ p / 64 = 8 by omega)] at g2
  have dp : 64 * (p / 64) + p % 64 = p := by omega
  have gl := g2.1
  have gn := g2.2.1
  refine fx6_findEdgesOf (l := p / 64) (s := p % 64) (e := e) (x := x) (by rw [s2]; exact o) (by rw [s2]; exact j) e2 (by omega) (by rw [s2]; exact pI) (by rw [s2]; exact g2) (by rw [s2, dp]; exact px) (by rw [d1]; exact a) (by rw [d2]; exact b) (by rw [d3]; exact g1) (by rw [s2, d8, dp]; exact hE) (by rw [s2, d9, d10, d11, d12, dp]; exact hR) (by rw [d13]; exact c0) (by rw [d13, d8]; exact c1) (fun u u1 u2 u3 u4 u5 u6 => ?_)
  rw [s2] at u1 u3 u4
  have ng := NB_grp g64 pI g2
  rw [dp] at ng
  obtain ⟨p', r1, r2, r3, r4, r5, r6⟩ := pos (x + 1) (64 * (p / 64) + e) (by omega) (by omega)
  have eg := EB_gap g64 (l := p / 64) (e := e) (by omega) (GRQ_cl g2) r1 r6
  have noE : ∀ w, 64 * (p / 64) + e ≤ w → w < p' → ¬ IsE (tn S.2) (tC S.2) (tP S.2) w := by
    intro w w1 w2 w3
    have lt : EB (tn S.2) (tC S.2) (tP S.2) w < EB (tn S.2) (tC S.2) (tP S.2) p' := CTP_lt w2 w3
    have mn := EB_mono (n := tn S.2) (C := tC S.2) (P := tP S.2) w1
    omega
  have ues : b6g_edgeStarts u.1 = upd (b6g_edgeStarts V.1) x (b6g_edges V.1) := u2.2.2.2.1.trans d7
  refine hB u p' u1 (u2.1.trans d1) (u2.2.1.trans d2) (u2.2.2.1.trans d3) (u2.2.2.2.2.1.trans d4) (u2.2.2.2.2.2.1.trans d5) (u2.2.2.2.2.2.2.trans d6) (fun y => ?_) r2 r3 r4 r5 (fun w y w1 w2 w3 => ?_) (by rw [eg]; exact u3) (EAR_skip u4 noE) u5 u6 (by omega)
  · rw [ues]
    by_cases z : y = x
    · rw [z, up_s]; omega
    · rw [up_n z]; exact fb y
  · rw [ues]
    by_cases z : w = p
    · rw [z] at w3 ⊢
      rw [show y = x by omega, up_s]
      exact hE
    · have wp : w < p := by
        apply Classical.byContradiction
        intro t
        by_cases t2 : 64 * (p / 64) + e ≤ w
        · exact r6 w t2 w1 w2
        · have lt : NB (tn S.2) (tC S.2) (tP S.2) w < NB (tn S.2) (tC S.2) (tP S.2) (64 * (p / 64) + e) := CTP_lt (by omega) w2
          have lt2 : NB (tn S.2) (tC S.2) (tP S.2) p < NB (tn S.2) (tC S.2) (tP S.2) w := CTP_lt (by omega) pI
          omega
      have lt : NB (tn S.2) (tC S.2) (tP S.2) w < NB (tn S.2) (tC S.2) (tP S.2) p := CTP_lt wp w2
      rw [up_n (by omega)]
      exact sE w y wp w2 w3
/-! places -/
def PLA (n : Nat) (C : Nat → Nat) (P : Nat → Nat → Nat) (pl lb ln : Nat → Int32) (b : Nat) : Prop := ∀ w z : Nat, w < b → IsL n C w → (z : Int) = LB n C w → (pl (w % 64)).toInt = LB n C w ∧ (lb z).toInt = ((w % 64 : Nat) : Int) ∧ (ln (w % 64)).toInt = NB n C P (w + 1) - 1
theorem PLA_skip {n : Nat} {C : Nat → Nat} {P : Nat → Nat → Nat} {pl lb ln : Nat → Int32} {b d : Nat} (h : PLA n C P pl lb ln b) (hn : ∀ w, b ≤ w → w < d → ¬ IsL n C w) : PLA n C P pl lb ln d := by
  intro w z hw hL hz
  by_cases y : w < b
  · exact h w z y hL hz
  · exact absurd hL (hn w (by omega) hw)
theorem PLA_add {n : Nat} {C : Nat → Nat} {P : Nat → Nat → Nat} {pl lb ln : Nat → Int32} {b m i : Nat} {x r v : Int32} (h : PLA n C P pl lb ln b) (hL : IsL n C b) (hm : (m : Int) = LB n C b) (hi : b % 64 = i) (hx : x.toInt = (m : Int)) (hr : r.toInt = (i : Int)) (hv : v.toInt = NB n C P (b + 1) - 1) : PLA n C P (upd pl i x) (upd lb m r) (upd ln i v) (b + 1) := by
  intro w z hw hL2 hz
  by_cases y : w = b
  · rw [y] at hz ⊢
    have ez : z = m := by omega
    rw [ez, hi, up_s, up_s, up_s]
    exact ⟨by omega, hr, hv⟩
  · have lt : LB n C w < LB n C b := CTP_lt (by omega) hL2
    have ne : w % 64 ≠ i := by
      intro q
      have a := hL.2
      have c := hL2.2
      rw [hi] at a
      rw [q] at c
      omega
    rw [up_n ne, up_n ne, up_n (show z ≠ m by omega)]
    exact h w z (by omega) hL2 hz
def FP6 (T S : bT6) : Prop := FE6 T S ∧ b6g_edges T = b6g_edges S ∧ b6g_edgeNodes T = b6g_edgeNodes S ∧ b6g_edgeOctets T = b6g_edgeOctets S ∧ b6g_edgeLeaves T = b6g_edgeLeaves S ∧ b6g_edgeChildren T = b6g_edgeChildren S
theorem fx6_findPlaces {S : bT6} {n : Nat} {C L : Nat → Nat} {P : Nat → Nat → Nat} {f : Nat → Int64} {Q : bT6 → Prop} (G : GRD n C L P) (he : (b6g_edges S).toInt = EB n C P 512) (hR : EAR n C L P f (b6g_edgeNodes S) (b6g_edgeOctets S) (b6g_edgeLeaves S) (b6g_edgeChildren S) 512) (hq : ∀ u : bT6, FP6 u S → PLA n C P (b6g_places u) (b6g_leavesByPlace u) (b6g_leafNodes u) 512 → Q u) : wp_X6_findPlaces S Q := by
  have ebm := EB_le G (w := 512) (by omega)
  have lbn : LB n C 512 = (n : Int) := LB_all n G.1 (fun i hi => (G.2.1 i hi).2.2.2)
  have g64 := G.1
  unfold wp_X6_findPlaces wp_X6_findPlaces_4
  refine ⟨fun k x1 x2 V => ∃ y p : Nat, x2.toInt = (y : Int) ∧ (y : Int) ≤ EB n C P 512 ∧ FP6 V S ∧ p ≤ 512 ∧ (y : Int) = EB n C P p ∧ x1.toInt = LB n C p ∧ PLA n C P (b6g_places V) (b6g_leavesByPlace V) (b6g_leafNodes V) p ∧ k = 300 - y, ⟨_, 0, 0, rfl, by omega, ⟨⟨rfl, rfl, rfl, rfl, rfl, rfl, rfl⟩, rfl, rfl, rfl, rfl, rfl⟩, by omega, rfl, rfl, fun w z hw => by omega, rfl⟩, ?_⟩
  rintro k x1 x2 V ⟨y, p, e2, ym, hF, hp, hy, h1, hA, hk⟩
  suffices H : ∀ B : Int32 → Int32 → bT6 → Prop, (∀ (T : bT6) (v : Int32) (p' : Nat), FP6 T S → p' ≤ 512 → ((y + 1 : Nat) : Int) = EB n C P p' → v.toInt = LB n C p' → PLA n C P (b6g_places T) (b6g_leavesByPlace T) (b6g_leafNodes T) p' → (y : Int) < EB n C P 512 → B v (x2 + 1) T) → wp_X6_findPlaces_4b V x1 x2 Q B from H _ (fun T v p' t1 t2 t3 t4 t5 hl => ⟨300 - (y + 1), by omega, y + 1, p', by rw [pt_add (by rw [pl_1]; omega) (by rw [pl_1]; omega), pl_1, e2]; omega, by omega, t1, t2, t3, t4, t5, rfl⟩)
  intro B hB
  have eE : b6g_edges V = b6g_edges S := hF.2.1
  have eL : b6g_edgeLeaves V = b6g_edgeLeaves S := hF.2.2.2.2.1
  have eN : b6g_edgeNodes V = b6g_edgeNodes S := hF.2.2.1
  unfold wp_X6_findPlaces_4b
  rw [eE, eL]
  refine ⟨fun c => ?_, fun c => ?_⟩
  · simp only [pn] at c
    refine hq V hF (PLA_skip hA (fun w w1 w2 w3 => ?_))
    have lt : EB n C P w < EB n C P 512 := CTP_lt w2 (IsL_E w3)
    have mn := EB_mono (n := n) (C := C) (P := P) w1
    omega
  simp only [pn] at c
  have hlt : (y : Int) < EB n C P 512 := by omega
  obtain ⟨w, w1, w2, w3⟩ := CTP_inv (P := IsE n C P) (e := (y : Int)) (by omega) 512 hlt
  have w3' : EB n C P w = (y : Int) := w3
  have lw : LB n C w = LB n C p := CTP_sub2 (P := IsE n C P) (R := IsL n C) (fun v hv => IsL_E hv) (by show EB n C P w = EB n C P p; omega)
  have hAw : PLA n C P (b6g_places V) (b6g_leavesByPlace V) (b6g_leafNodes V) w := by
    refine PLA_skip hA (fun v v1 v2 v3 => ?_)
    have lt : EB n C P v < EB n C P w := CTP_lt v2 (IsL_E v3)
    have mn := EB_mono (n := n) (C := C) (P := P) v1
    omega
  have nx : ((y + 1 : Nat) : Int) = EB n C P (w + 1) := by
    have t : EB n C P (w + 1) = EB n C P w + 1 := CTP_y w2
    omega
  obtain ⟨r1, r2, r3, r4, r5⟩ := hR w y w1 w2 w3'.symm
  have lbr : 0 ≤ LB n C w := (CTP_rng _ _).1
  refine fx_atN (by decide) e2 (by omega) ⟨fun d => ?_, fun d => ⟨fun d2 => ?_, fun d2 => ⟨fun d3 => ?_, fun d3 => ?_⟩⟩⟩
  · simp only [pn] at d
    have hn : ¬ IsL n C w := fun q => by have := r3 q.2; omega
    unfold wp_X6_findPlaces_68
    have t : LB n C (w + 1) = LB n C w := CTP_n hn
    exact hB V x1 (w + 1) hF (by omega) nx (by rw [t, lw]; exact h1) (PLA_skip hAw (fun v v1 v2 => by rw [show v = w by omega]; exact hn)) hlt
  · simp only [pn] at d d2
    exfalso
    by_cases q : C (w % 64) = w / 64
    · have := r3 q
      omega
    · have := r4 q
      omega
  · simp only [pn] at d d3
    exfalso
    by_cases q : C (w % 64) = w / 64
    · have hL : IsL n C w := ⟨w2.1, q⟩
      have lt : LB n C w < LB n C 512 := CTP_lt w1 hL
      omega
    · have := r4 q
      omega
  · simp only [pn] at d d3
    have hC : C (w % 64) = w / 64 := by
      apply Classical.byContradiction
      intro q
      have := r4 q
      omega
    have hL : IsL n C w := ⟨w2.1, hC⟩
    have r3' := r3 hC
    have lt : LB n C w < LB n C 512 := CTP_lt w1 hL
    obtain ⟨m, em⟩ : ∃ m : Nat, x1.toInt = (m : Int) := ⟨x1.toInt.toNat, by omega⟩
    have c1 : x1.toNatClampNeg = m := by
      show x1.toInt.toNat = m
      omega
    have c2 : (b6g_edgeLeaves S y).toNatClampNeg = w % 64 := by
      show (b6g_edgeLeaves S y).toInt.toNat = w % 64
      omega
    rw [c1, c2]
    refine ⟨pt_in (by omega) (by omega), fun S3 e3 => ⟨pt_in (by omega) (by omega), fun S4 e4 => ?_⟩⟩
    have n4 : b6g_edgeNodes S4 = b6g_edgeNodes S := by rw [e4, e3]; exact eN
    rw [n4]
    refine fx_atN (by decide) e2 (by omega) ⟨pt_in (by omega) (by omega), fun S7 e7 => ?_⟩
    unfold wp_X6_findPlaces_68
    have t : LB n C (w + 1) = LB n C w + 1 := CTP_y hL
    refine hB S7 (x1 + 1) (w + 1) (by rw [e7, e4, e3]; exact hF) (by omega) nx (by rw [pt_add (by rw [pl_1]; omega) (by rw [pl_1]; omega), pl_1, t, h1, lw]) ?_ hlt
    rw [e7, e4, e3]
    exact PLA_add hAw hL (by omega) rfl em r3' r1
/-! bits, upper levels -/
noncomputable def BTE (n : Nat) (C : Nat → Nat) (P : Nat → Nat → Nat) (u : Nat) : Int := 11 * (EB n C P 512 - EB n C P (64 * u))
noncomputable def BTN (n : Nat) (C : Nat → Nat) (P : Nat → Nat → Nat) (u : Nat) : Int := 513 * NB n C P (64 * u)
def COU (n : Nat) (C : Nat → Nat) (P : Nat → Nat → Nat) (ra : Int32) (u : Nat) : Prop := ∀ a b : Int32, a.toInt = BTN n C P u → b.toInt = BTE n C P u → ¬ b < ra * a
theorem COU_iff {n : Nat} {C : Nat → Nat} {P : Nat → Nat → Nat} {ra a b : Int32} {u : Nat} (ha : a.toInt = BTN n C P u) (hb : b.toInt = BTE n C P u) : COU n C P ra u ↔ ¬ b < ra * a := by
  constructor
  · intro h
    exact h a b ha hb
  · intro h a2 b2 ha2 hb2
    rw [Int32.toInt_inj.mp (ha2.trans ha.symm), Int32.toInt_inj.mp (hb2.trans hb.symm)]
    exact h
def UPR (n : Nat) (C : Nat → Nat) (P : Nat → Nat → Nat) (ra : Int32) (lv u : Nat) : Prop := u ≤ lv ∧ (u = 0 ∨ COU n C P ra u) ∧ ∀ i, u < i → i ≤ lv → ¬ COU n C P ra i
theorem UPR_one {n : Nat} {C : Nat → Nat} {P : Nat → Nat → Nat} {ra : Int32} {lv u v : Nat} (h : UPR n C P ra lv u) (g : UPR n C P ra lv v) : u = v := by
  by_cases a : u < v
  · rcases g.2.1 with z | z
    · omega
    · exact absurd z (h.2.2 v a g.1)
  · by_cases b : v < u
    · rcases h.2.1 with z | z
      · omega
      · exact absurd z (g.2.2 u b h.1)
    · omega
def UPS (n : Nat) (C : Nat → Nat) (P : Nat → Nat → Nat) (de ra : Int32) (lv u : Nat) : Prop := (de.toInt = 9 → UPR n C P ra lv u) ∧ (¬ de.toInt = 9 → (u : Int) = min de.toInt (lv : Int))
def TR6 (T : bT6) (n : Nat) (C L : Nat → Nat) (P : Nat → Nat → Nat) (f : Nat → Int64) : Prop :=
  (b6g_nodes T).toInt = NB n C P 512 ∧ NOD n C P (b6g_nodeLevels T) (b6g_firstLeaves T) (b6g_leafCounts T) 8 0 ∧ (∀ l : Nat, l ≤ 8 → (b6g_levelStarts T l).toInt = NB n C P (64 * l)) ∧ LEVS n C P (b6g_levels T).toInt 8 ∧
  (∀ w y : Nat, w < 512 → IsN n C P w → (y : Int) = NB n C P w → (b6g_edgeStarts T y).toInt = EB n C P w) ∧ (∀ y : Nat, (y : Int) = NB n C P 512 → (b6g_edgeStarts T y).toInt = EB n C P 512) ∧ (b6g_edges T).toInt = EB n C P 512 ∧
  EAR n C L P f (b6g_edgeNodes T) (b6g_edgeOctets T) (b6g_edgeLeaves T) (b6g_edgeChildren T) 512
theorem NB_pos {n : Nat} {C : Nat → Nat} {P : Nat → Nat → Nat} {b x : Nat} (hb : b ≤ 512) (hx : (x : Int) = NB n C P b) : ∃ p : Nat, b ≤ p ∧ p ≤ 512 ∧ (x : Int) = NB n C P p ∧ ((x : Int) < NB n C P 512 → p < 512 ∧ IsN n C P p) ∧ (¬ (x : Int) < NB n C P 512 → p = 512) ∧ ∀ w, b ≤ w → w < p → ¬ IsN n C P w := by
  by_cases z : (x : Int) < NB n C P 512
  · obtain ⟨p, p1, p2, p3⟩ := CTP_inv (P := IsN n C P) (e := (x : Int)) (by omega) 512 z
    have p3' : NB n C P p = (x : Int) := p3
    have bp : b ≤ p := by
      apply Classical.byContradiction
      intro t
      have t2 : NB n C P p < NB n C P b := CTP_lt (by omega) p2
      omega
    refine ⟨p, bp, by omega, by omega, fun _ => ⟨p1, p2⟩, fun t => absurd z t, fun w w1 w2 w3 => ?_⟩
    have a : NB n C P w < NB n C P p := CTP_lt w2 w3
    have c := NB_mono (n := n) (C := C) (P := P) w1
    omega
  · have mn := NB_mono (n := n) (C := C) (P := P) hb
    refine ⟨512, hb, Nat.le_refl _, by omega, fun t => absurd t z, fun _ => rfl, fun w w1 w2 w3 => ?_⟩
    have a : NB n C P w < NB n C P 512 := CTP_lt w2 w3
    have c := NB_mono (n := n) (C := C) (P := P) w1
    omega
/-- where the edges of a level's nodes begin -/
theorem TR6_es {T : bT6} {n : Nat} {C L : Nat → Nat} {P : Nat → Nat → Nat} {f : Nat → Int64} (G : GRD n C L P) (t : TR6 T n C L P f) {l y : Nat} (hl : l ≤ 8) (hy : (y : Int) = NB n C P (64 * l)) : (b6g_edgeStarts T y).toInt = EB n C P (64 * l) := by
  obtain ⟨p, p1, p2, p3, p4, p5, p6⟩ := NB_pos (n := n) (C := C) (P := P) (b := 64 * l) (x := y) (by omega) hy
  have eg : EB n C P p = EB n C P (64 * l + 0) := EB_gap G.1 (l := l) (e := 0) (by omega) (fun a b => ⟨a, b, Or.inl rfl⟩) (by omega) (fun w a b => p6 w (by omega) b)
  have eg' : EB n C P p = EB n C P (64 * l) := eg
  rw [← eg']
  by_cases z : (y : Int) < NB n C P 512
  · exact t.2.2.2.2.1 p y (p4 z).1 (p4 z).2 p3
  · have q := p5 z
    subst q
    exact t.2.2.2.2.2.1 y p3
theorem fx6_edgesAmong {T : bT6} {a1 a2 : Int32} {x y : Nat} {Q : Int32 → Prop} (h1 : a1.toInt = (x : Int)) (h2 : a2.toInt = (y : Int)) (hx : x < 233) (hy : y < 233) (hq : Q (b6g_edgeStarts T y - b6g_edgeStarts T x)) : wp_X6_edgesAmong T a1 a2 Q := by
  unfold wp_X6_edgesAmong
  exact fx_atN (by decide) h2 hy (fx_atN (by decide) h1 hx hq)
theorem fx6_bitsBy {T : bT6} {n : Nat} {C L : Nat → Nat} {P : Nat → Nat → Nat} {f : Nat → Int64} (G : GRD n C L P) (t : TR6 T n C L P f) {a1 : Int32} {u : Nat} {Q : Int32 → Prop} (h : a1.toInt = (u : Int)) (h8 : u ≤ 8) (hq : ∀ r : Int32, r.toInt = BTN n C P u + BTE n C P u → Q r) : wp_X6_bitsBy T a1 Q := by
  have nb5 : NB n C P (64 * 7 + 64) = NB n C P 512 := rfl
  have n5 := NB_le G (l := 7) (i := 64) (by omega) (by omega)
  have nm := NB_mono (n := n) (C := C) (P := P) (show 64 * u ≤ 512 by omega)
  have n0 : 0 ≤ NB n C P (64 * u) := (CTP_rng _ _).1
  have e5 := EB_le G (w := 512) (by omega)
  have eu := EB_le G (w := 64 * u) (by omega)
  have ls := t.2.2.1 u h8
  obtain ⟨x, ex⟩ : ∃ x : Nat, (x : Int) = NB n C P (64 * u) := ⟨(NB n C P (64 * u)).toNat, by omega⟩
  obtain ⟨y, ey⟩ : ∃ y : Nat, (y : Int) = NB n C P 512 := ⟨(NB n C P 512).toNat, by omega⟩
  have s1 := TR6_es G t h8 ex
  have s2 := t.2.2.2.2.2.1 y ey
  unfold wp_X6_bitsBy
  refine fx_atN (by decide) h (by omega) (fx6_edgesAmong (x := x) (y := y) (by omega) (by rw [t.1]; omega) (by omega) (by omega) (hq _ ?_))
  have q1 : (b6g_edgeStarts T y - b6g_edgeStarts T x).toInt = EB n C P 512 - EB n C P (64 * u) := by rw [pt_sub (by omega) (by omega), s1, s2]
  have q2 : ((513 : Int32) * b6g_levelStarts T u).toInt = 513 * NB n C P (64 * u) := by rw [pt_mul (by rw [ls]; show _ ≤ 513 * _; omega) (by rw [ls]; show 513 * _ < _; omega), ls]; rfl
  have q3 : ((11 : Int32) * (b6g_edgeStarts T y - b6g_edgeStarts T x)).toInt = 11 * (EB n C P 512 - EB n C P (64 * u)) := by rw [pt_mul (by rw [q1]; show _ ≤ 11 * _; omega) (by rw [q1]; show 11 * _ < _; omega), q1]; rfl
  unfold BTN BTE
  rw [pt_add (by omega) (by omega), q2, q3]
theorem fx6_upperBy {T : bT6} {n : Nat} {C L : Nat → Nat} {P : Nat → Nat → Nat} {f : Nat → Int64} (G : GRD n C L P) (t : TR6 T n C L P f) {a1 : Int32} {lv : Nat} {Q : Int32 → Prop} (hl : (b6g_levels T).toInt = (lv : Int)) (h8 : lv ≤ 8) (hq : ∀ (r : Int32) (u : Nat), r.toInt = (u : Int) → UPR n C P a1 lv u → Q r) : wp_X6_upperBy T a1 Q := by
  have nb5 : NB n C P (64 * 7 + 64) = NB n C P 512 := rfl
  have n5 := NB_le G (l := 7) (i := 64) (by omega) (by omega)
  unfold wp_X6_upperBy wp_X6_upperBy_4
  refine ⟨fun k x1 x2 x3 => ∃ u i : Nat, a1 = x1 ∧ x2.toInt = (u : Int) ∧ x3.toInt = (i : Int) ∧ 1 ≤ i ∧ i ≤ lv + 1 ∧ u < i ∧ (u = 0 ∨ COU n C P a1 u) ∧ (∀ q, u < q → q < i → ¬ COU n C P a1 q) ∧ k = 10 - i, ⟨_, 0, 1, rfl, rfl, rfl, by omega, by omega, by omega, Or.inl rfl, fun q a b => by omega, rfl⟩, ?_⟩
  rintro k x1 x2 x3 ⟨u, i, rfl, e2, e3, i1, i2, hui, hu, hno, hk⟩
  suffices H : ∀ B : Int32 → Int32 → Int32 → Prop, (∀ (v : Int32) (u' : Nat), v.toInt = (u' : Int) → u' < i + 1 → (u' = 0 ∨ COU n C P a1 u') → (∀ q, u' < q → q < i + 1 → ¬ COU n C P a1 q) → i ≤ lv → B a1 v (x3 + 1)) → wp_X6_upperBy_4b T a1 x2 x3 Q B from H _ (fun v u' t1 t2 t3 t4 t5 => ⟨10 - (i + 1), by omega, u', i + 1, rfl, t1, by rw [pt_add (by rw [pl_1]; omega) (by rw [pl_1]; omega), pl_1, e3]; omega, by omega, by omega, t2, t3, t4, rfl⟩)
  intro B hB
  unfold wp_X6_upperBy_4b
  refine ⟨fun c => ?_, fun c => ?_⟩
  · simp only [pn] at c
    exact hq x2 u e2 ⟨by omega, hu, fun q a b => hno q a (by omega)⟩
  simp only [pn] at c
  have nm := NB_mono (n := n) (C := C) (P := P) (show 64 * i ≤ 512 by omega)
  have n0 : 0 ≤ NB n C P (64 * i) := (CTP_rng _ _).1
  have e5 := EB_le G (w := 512) (by omega)
  have eu := EB_le G (w := 64 * i) (by omega)
  have em := EB_mono (n := n) (C := C) (P := P) (show 64 * i ≤ 512 by omega)
  have ls := t.2.2.1 i (by omega)
  refine fx_atN (by decide) e3 (by omega) (fun v3 e3' => fx6_bitsBy G t e3 (by omega) (fun r4 e4 => ?_))
  have q2 : v3.toInt = BTN n C P i := by
    unfold BTN
    rw [e3', pt_mul (by rw [ls]; show _ ≤ 513 * _; omega) (by rw [ls]; show 513 * _ < _; omega), ls]
    rfl
  have q3 : (r4 - v3).toInt = BTE n C P i := by
    unfold BTN at q2 e4
    unfold BTE at e4 ⊢
    rw [pt_sub (by omega) (by omega)]
    omega
  have key := COU_iff (ra := a1) q2 q3
  unfold wp_X6_upperBy_43
  refine ⟨fun d => hB x2 u e2 (by omega) hu (fun q a b => ?_) (by omega), fun d => hB x3 i e3 (by omega) (Or.inr (key.mpr d)) (fun q a b => by omega) (by omega)⟩
  by_cases z : q = i
  · rw [z]
    exact fun y => absurd d (key.mp y)
  · exact hno q a (by omega)
/-! the tree is made -/
def TRX (T : bT6) (X : bT1) (de ra : Int32) : Prop := ∃ u lv : Nat, TR6 T (tn X) (tC X) (tL X) (tP X) (b0g_bytes (b1g_owners X)) ∧ PLA (tn X) (tC X) (tP X) (b6g_places T) (b6g_leavesByPlace T) (b6g_leafNodes T) 512 ∧ (b6g_levels T).toInt = (lv : Int) ∧ lv ≤ 8 ∧ (b6g_upper T).toInt = (u : Int) ∧ u ≤ lv ∧ UPS (tn X) (tC X) (tP X) de ra lv u ∧ (b6g_upperNodes T).toInt = NB (tn X) (tC X) (tP X) (64 * u) ∧ (b6g_itemStart T).toInt = EB (tn X) (tC X) (tP X) (64 * u)
theorem fx6_make {S : bT6 × bT1} {a2 a3 : Int32} {Q : (bT6 × bT1) → Prop} (hJ : J6 S.1) (o : LVO S.2) (j : J1 S.2) (h0 : 0 ≤ a2.toInt) (hq : ∀ u : bT6 × bT1, J6 u.1 → u.2 = S.2 → TRX u.1 S.2 a2 a3 → Q u) : wp_X6_make S a2 a3 Q := by
  have G := tG o j
  have nb5 : NB (tn S.2) (tC S.2) (tP S.2) (64 * 7 + 64) = NB (tn S.2) (tC S.2) (tP S.2) 512 := rfl
  have n5 := NB_le G (l := 7) (i := 64) (by omega) (by omega)
  have e5 := EB_le G (w := 512) (by omega)
  unfold wp_X6_make
  refine fx6_findNodes o j (fun u9 a1 a2' a3' a4 a5 a6 => ?_)
  refine fx6_findEdges (by rw [a1]; exact o) (by rw [a1]; exact j) (by rw [a1]; exact a3') (by rw [a1]; exact a4) (by rw [a2']; exact J6g_edgeStarts hJ) (fun u11 b1 b2 b3 b4 b5 b6 b7 b8 b9 b10 b11 b12 => ?_)
  rw [a1] at b1 b9 b10 b11 b12
  refine fx6_findPlaces G b11 b12 (fun u13 c1 c2 S14 e14 => ?_)
  obtain ⟨⟨d1, d2, d3, d4, d5, d6, d7⟩, d8, d9, d10, d11, d12⟩ := c1
  have s14 : S14.2 = S.2 := by rw [e14]; exact b1
  have t14 : S14.1 = u13 := by rw [e14]
  have T : TR6 S14.1 (tn S.2) (tC S.2) (tL S.2) (tP S.2) (b0g_bytes (b1g_owners S.2)) := by
    rw [t14]
    refine ⟨?_, ?_, fun l hl => ?_, ?_, fun w y w1 w2 w3 => ?_, fun y w3 => ?_, ?_, ?_⟩
    · rw [d6, b6]; exact a3'
    · rw [d1, d2, d3, b2, b3, b4]; exact a4
    · rw [d5, b5]; exact a5 l hl
    · rw [d7, b7]; exact a6
    · rw [d4]; exact b9 w y w1 w2 w3
    · rw [d4]; exact b10 y w3
    · rw [d8]; exact b11
    · rw [d9, d10, d11, d12]; exact b12
  have PL : PLA (tn S.2) (tC S.2) (tP S.2) (b6g_places S14.1) (b6g_leavesByPlace S14.1) (b6g_leafNodes S14.1) 512 := by rw [t14]; exact c2
  obtain ⟨lv, hlv, h8⟩ : ∃ lv : Nat, (b6g_levels S14.1).toInt = (lv : Int) ∧ lv ≤ 8 := by
    rcases T.2.2.2.1 with ⟨z, _⟩ | ⟨q, z, q8, _⟩
    · exact ⟨0, z, by omega⟩
    · exact ⟨q + 1, by omega, by omega⟩
  have eb : ∀ y : Nat, -1 ≤ (b6g_edgeStarts S14.1 y).toInt ∧ (b6g_edgeStarts S14.1 y).toInt ≤ 296 := by
    rw [t14, d4]
    exact b8
  have fin : ∀ (t : Int32) (u : Nat), t.toInt = (u : Int) → u ≤ lv → UPS (tn S.2) (tC S.2) (tP S.2) a2 a3 lv u → wp_X6_make_37 S14 t Q := by
    intro t u ht hu hU
    have ls := T.2.2.1 u (by omega)
    have nm := NB_mono (n := tn S.2) (C := tC S.2) (P := tP S.2) (show 64 * u ≤ 512 by omega)
    have n0 : 0 ≤ NB (tn S.2) (tC S.2) (tP S.2) (64 * u) := (CTP_rng _ _).1
    obtain ⟨x, ex⟩ : ∃ x : Nat, (x : Int) = NB (tn S.2) (tC S.2) (tP S.2) (64 * u) := ⟨(NB (tn S.2) (tC S.2) (tP S.2) (64 * u)).toNat, by omega⟩
    have es := TR6_es G T (l := u) (by omega) ex
    unfold wp_X6_make_37
    intro S1 e1
    have f1 : b6g_upper S1.1 = t := by rw [e1]
    rw [f1]
    refine fx_atN (by decide) ht (by omega) (fun S4 e4 => ?_)
    have f4 : b6g_upperNodes S4.1 = b6g_levelStarts S1.1 u := by rw [e4]
    have f4' : b6g_levelStarts S1.1 u = b6g_levelStarts S14.1 u := by rw [e1]
    rw [f4, f4']
    refine fx_atN (by decide) (m := x) (by omega) (by omega) (fun S7 e7 => ?_)
    have g1 : b6g_itemStart S7.1 = b6g_edgeStarts S14.1 x := by rw [e7, e4, e1]
    refine hq S7 ?_ (by rw [e7, e4, e1]; exact s14) ⟨u, lv, by rw [e7, e4, e1]; exact T, by rw [e7, e4, e1]; exact PL, by rw [e7, e4, e1]; exact hlv, h8, by rw [e7, e4, e1]; exact ht, hu, hU, ?_, by rw [g1]; exact es⟩
    · refine ⟨by rw [e7, e4, e1]; exact eb, ?_, ?_, ?_, ?_⟩
      · have k : b6g_nodes S7.1 = b6g_nodes S14.1 := by rw [e7, e4, e1]
        rw [k, T.1]
        omega
      · have k : b6g_edges S7.1 = b6g_edges S14.1 := by rw [e7, e4, e1]
        rw [k, T.2.2.2.2.2.2.1]
        omega
      · have k : b6g_levels S7.1 = b6g_levels S14.1 := by rw [e7, e4, e1]
        rw [k, hlv]
        omega
      · rw [g1]
        exact eb x
    · have k : b6g_upperNodes S7.1 = b6g_levelStarts S14.1 u := by rw [e7, e4, e1]
      rw [k]
      exact ls
  refine ⟨fun c => ?_, fun c => fx6_upperBy G T hlv h8 (fun r u hr hu => fin r u hr hu.1 ⟨fun _ => hu, fun z => absurd (by rw [c]; rfl) z⟩)⟩
  have c9 : ¬ a2.toInt = 9 := fun z => c (Int32.toInt_inj.mp z)
  by_cases z : b6g_levels S14.1 < a2
  · rw [if_pos z]
    simp only [pn] at z
    exact fin _ lv hlv (Nat.le_refl _) ⟨fun y => absurd y c9, fun _ => by omega⟩
  · rw [if_neg z]
    simp only [pn] at z
    exact fin _ a2.toInt.toNat (by omega) (by omega) ⟨fun y => absurd y c9, fun _ => by omega⟩
/-! the reference's tree -/
def n9 (S : bT9) : Nat := (b9g_now S 9).toInt.toNat
def C9 (S : bT9) : Nat → Nat := COM (fun j => b9g_keys S (64 + j)) (fun j => b9g_lengths S (64 + j)) (b9g_now S 9).toInt
def L9 (S : bT9) : Nat → Nat := fun i => (b9g_lengths S (64 + i)).toInt.toNat
def P9 (S : bT9) : Nat → Nat → Nat := fun l i => PX (ub (b9g_keys S (64 + i))) l
def R9 (S : bT9) : Prop := GRD (n9 S) (C9 S) (L9 S) (P9 S) ∧ 0 ≤ (b9g_now S 9).toInt ∧ ∀ i : Nat, i < n9 S → (b9g_beginning S i).toInt = ((min (C9 S i + 1) (L9 S i) : Nat) : Int) ∧ (b9g_common S i).toInt = (C9 S i : Int)
theorem R9_of {S : bT9} (hs : SR9 S) (hc : CLN (fun j => b9g_keys S (64 + j)) (fun j => b9g_lengths S (64 + j)) (b9g_now S 9).toInt) (hJ : J9 S) (hl : (b9g_isLaid S).toInt ≠ 0) : R9 S := by
  have jn := (J9g_now hJ).2.2.2.1
  refine ⟨GRD_of hs hc jn.2, jn.1, fun i hi => ?_⟩
  unfold n9 at hi
  have d := hJ.2.2 hl i (by omega)
  exact ⟨d.2, d.1⟩
theorem AK_iff {K : Nat → Int64} {l : Int32} {i j : Nat} (h0 : 0 ≤ l.toInt) (h8 : l.toInt ≤ 8) : AK K l i j ↔ PX (ub (K (64 + i))) l.toInt.toNat = PX (ub (K (64 + j))) l.toInt.toNat := by
  unfold AK
  by_cases z : l.toInt = 0
  · have e : l = 0 := Int32.toInt_inj.mp z
    rw [e]
    refine ⟨fun _ => ?_, fun _ => rfl⟩
    show PX _ 0 = PX _ 0
    rw [PX_0 (ub_lt _), PX_0 (ub_lt _)]
  · have l1 : 1 ≤ l.toInt := by omega
    have ca := ub_cut (K (64 + i)) l1 h8
    have cb := ub_cut (K (64 + j)) l1 h8
    have pos : 0 < 2 ^ (64 - 8 * l.toInt.toNat) := Nat.two_pow_pos _
    constructor
    · intro h
      rw [h] at ca
      exact Nat.eq_of_mul_eq_mul_right pos (by rw [← ca, ← cb])
    · intro h
      exact ub_inj (by rw [ca, cb, h])
def NSD (beg lv lf ls : Nat → Int32) (m : Int) : Prop := ∀ x : Nat, (x : Int) < m → ∃ i : Nat, (lf x).toInt ≤ (i : Int) ∧ (i : Int) < (lf x).toInt + (ls x).toInt ∧ (lv x).toInt < (beg i).toInt
theorem NOD_TR {S : bT9} (h : R9 S) (hN : ND (b9g_nodeLevel S) (b9g_nodeLeaf S) (b9g_nodeLeaves S) (b9g_nodeMany S)) (hm0 : 0 ≤ (b9g_nodeMany S).toInt) (hM : NM (b9g_keys S) (b9g_beginning S) (b9g_nodeLevel S) (b9g_nodeLeaf S) (b9g_nodeLeaves S) (b9g_nodeMany S).toInt) (hC : NC (b9g_beginning S) (b9g_nodeLevel S) (b9g_nodeLeaf S) (b9g_nodeLeaves S) (b9g_nodeMany S).toInt (b9g_now S 9).toInt 8 0) (hE : NE (b9g_nodeLeaf S) (b9g_nodeLeaves S) (b9g_nodeMany S).toInt (b9g_now S 9).toInt) (hD : NSD (b9g_beginning S) (b9g_nodeLevel S) (b9g_nodeLeaf S) (b9g_nodeLeaves S) (b9g_nodeMany S).toInt) : (b9g_nodeMany S).toInt = NB (n9 S) (C9 S) (P9 S) 512 ∧ NOD (n9 S) (C9 S) (P9 S) (b9g_nodeLevel S) (b9g_nodeLeaf S) (b9g_nodeLeaves S) 8 0 := by
  obtain ⟨G, h0, hb⟩ := h
  have hn : ((n9 S : Nat) : Int) = (b9g_now S 9).toInt := by unfold n9; omega
  have g64 := G.1
  obtain ⟨m, em⟩ : ∃ m : Nat, (b9g_nodeMany S).toInt = (m : Int) := ⟨(b9g_nodeMany S).toInt.toNat, by omega⟩
  -- a node by natural numbers
  have nat : ∀ x : Nat, x < m → ∃ l s e : Nat, (b9g_nodeLevel S x).toInt = (l : Int) ∧ (b9g_nodeLeaf S x).toInt = (s : Int) ∧ (b9g_nodeLeaves S x).toInt = (e : Int) - (s : Int) ∧ l ≤ 7 ∧ s < e ∧ e ≤ n9 S ∧ (∀ k, s ≤ k → k < e → l ≤ C9 S k ∧ P9 S l k = P9 S l s) ∧ (∀ k, k + 1 = s → (l : Int) ≤ (b9g_beginning S k).toInt → ¬ P9 S l k = P9 S l s) := by
    intro x hx
    have a := (hN x (by omega)).1
    have b := hE x (by omega)
    obtain ⟨c1, c2⟩ := hM x (by omega)
    obtain ⟨i, i1, i2, i3⟩ := hD x (by omega)
    refine ⟨(b9g_nodeLevel S x).toInt.toNat, (b9g_nodeLeaf S x).toInt.toNat, ((b9g_nodeLeaf S x).toInt + (b9g_nodeLeaves S x).toInt).toNat, by omega, by omega, by omega, by omega, by omega, by omega, ?_, ?_⟩
    · have mem : ∀ k : Nat, (b9g_nodeLeaf S x).toInt.toNat ≤ k → k < ((b9g_nodeLeaf S x).toInt + (b9g_nodeLeaves S x).toInt).toNat → (b9g_nodeLevel S x).toInt.toNat ≤ L9 S k ∧ P9 S (b9g_nodeLevel S x).toInt.toNat k = P9 S (b9g_nodeLevel S x).toInt.toNat (b9g_nodeLeaf S x).toInt.toNat := by
        intro k k1 k2
        have q := c1 k (by omega) (by omega)
        have hk := hb k (by omega)
        exact ⟨by omega, (AK_iff (by omega) (by omega)).mp q.2⟩
      intro k k1 k2
      refine ⟨?_, (mem k k1 k2).2⟩
      have bi := hb i (by omega)
      have mi := mem i (by omega) (by omega)
      have mk := mem k k1 k2
      by_cases z : i = k
      · rw [← z]; omega
      · by_cases y : i < k
        · exact (G.2.2.2.2.1 _ i k (by omega) y (by omega) mi.1 mk.1 (by rw [mi.2, mk.2]) k (by omega) (Nat.le_refl _)).1
        · exact (G.2.2.2.2.1 _ k i (by omega) (by omega) (by omega) mk.1 mi.1 (by rw [mi.2, mk.2]) k (Nat.le_refl _) (by omega)).1
    · intro k k1 k2 k3
      refine c2 k (by omega) (by omega) ((AK_iff (by omega) (by omega)).mpr ?_)
      rw [k1]
      exact k3
  have ndp : ∀ x y : Nat, x < y → y < m → 64 * (b9g_nodeLevel S x).toInt + (b9g_nodeLeaf S x).toInt + (b9g_nodeLeaves S x).toInt ≤ 64 * (b9g_nodeLevel S y).toInt + (b9g_nodeLeaf S y).toInt := fun x y hxy hy => ND_pos hN hxy (by omega)
  have st : ∀ (x l s e : Nat), x < m → (b9g_nodeLevel S x).toInt = (l : Int) → (b9g_nodeLeaf S x).toInt = (s : Int) → (b9g_nodeLeaves S x).toInt = (e : Int) - (s : Int) → l ≤ 7 → s < e → e ≤ n9 S → (∀ k, s ≤ k → k < e → l ≤ C9 S k ∧ P9 S l k = P9 S l s) → (∀ k, k + 1 = s → (l : Int) ≤ (b9g_beginning S k).toInt → ¬ P9 S l k = P9 S l s) → NST (n9 S) (C9 S) (P9 S) l s ∧ GRQ (n9 S) (C9 S) (P9 S) l s e (n9 S) := by
    intro x l s e hx e1 e2 e3 l7 hse hen mem lft
    refine ⟨⟨by omega, (mem s (Nat.le_refl _) hse).1, ?_⟩, hse, hen, mem, fun hlt r => ?_⟩
    · by_cases z : s = 0
      · exact Or.inl z
      · refine Or.inr (fun q => lft (s - 1) (by omega) ?_ q.2)
        have b1 := hb (s - 1) (by omega)
        have b2 := G.2.1 (s - 1) (by omega)
        omega
    · have be := hb e (by omega)
      have ae := G.2.1 e (by omega)
      by_cases z : (l : Int) < (b9g_beginning S e).toInt
      · obtain ⟨y, y1, y2, y3, y4⟩ := hC (l : Int) e (by omega) (by omega) z (Or.inl (by omega))
        by_cases yx : y = x
        · subst yx
          omega
        · by_cases lt : y < x
          · have := ndp y x lt hx
            omega
          · have q := ndp x y (by omega) (by omega)
            obtain ⟨l', s', e', f1, f2, f3, f4, f5, f6, f7, f8⟩ := nat y (by omega)
            have el : l' = l := by omega
            have es : s' = e := by omega
            rw [el, es] at f8
            have me := mem (e - 1) (by omega) (by omega)
            have b1 := hb (e - 1) (by omega)
            have b2 := G.2.1 (e - 1) (by omega)
            exact f8 (e - 1) (by omega) (by omega) (by rw [me.2, r.2])
      · have as := G.2.1 s (by omega)
        have ms := mem s (Nat.le_refl _) hse
        exact G.2.2.2.2.2.2.1 l s e hse (by omega) (by omega) (by omega) r.2.symm
  have cov : ∀ w : Nat, w < 512 → IsN (n9 S) (C9 S) (P9 S) w → ∃ x : Nat, x < m ∧ 64 * (b9g_nodeLevel S x).toInt.toNat + (b9g_nodeLeaf S x).toInt.toNat = w := by
    intro w hw hI
    have bi := hb (w % 64) hI.1
    have ai := G.2.1 (w % 64) hI.1
    have hI2 := hI.2.1
    have fin : ∀ y i : Nat, y < m → (b9g_nodeLevel S y).toInt = ((w / 64 : Nat) : Int) → (b9g_nodeLeaf S y).toInt ≤ ((w % 64 : Nat) : Int) → ((w % 64 : Nat) : Int) < (b9g_nodeLeaf S y).toInt + (b9g_nodeLeaves S y).toInt → ∃ x : Nat, x < m ∧ 64 * (b9g_nodeLevel S x).toInt.toNat + (b9g_nodeLeaf S x).toInt.toNat = w := by
      intro y _ y1 y2 y3 y4
      obtain ⟨l', s', e', f1, f2, f3, f4, f5, f6, f7, f8⟩ := nat y y1
      have el : l' = w / 64 := by omega
      rw [el] at f7
      refine ⟨y, y1, ?_⟩
      by_cases z : s' = w % 64
      · omega
      · exfalso
        have q1 := f7 (w % 64) (by omega) (by omega)
        have q2 := f7 (w % 64 - 1) (by omega) (by omega)
        rcases hI.2.2 with t | t
        · omega
        · exact t ⟨q2.1, by rw [q2.2, q1.2]⟩
    by_cases z : ((w / 64 : Nat) : Int) < (b9g_beginning S (w % 64)).toInt
    · obtain ⟨y, y1, y2, y3, y4⟩ := hC ((w / 64 : Nat) : Int) (w % 64) (by omega) (by have := hI.1; omega) z (Or.inl (by omega))
      exact fin y 0 (by omega) y2 y3 y4
    · have two := NST_two G (l := w / 64) (s := w % 64) (by omega) hI
      have ne : ¬ L9 S (w % 64 + 1) = w / 64 := fun t => G.2.2.2.2.2.2.1 (w / 64) (w % 64) (w % 64 + 1) (by omega) two.1 t.symm (by omega) two.2.2.symm
      have a1 := G.2.1 (w % 64 + 1) two.1
      have b1 := hb (w % 64 + 1) two.1
      have t21 := two.2.1
      have t1 := two.1
      obtain ⟨y, y1, y2, y3, y4⟩ := hC ((w / 64 : Nat) : Int) (w % 64 + 1) (by omega) (by omega) (by omega) (Or.inl (by omega))
      obtain ⟨l', s', e', f1, f2, f3, f4, f5, f6, f7, f8⟩ := nat y (by omega)
      have el : l' = w / 64 := by omega
      rw [el] at f8
      have ns : ¬ s' = w % 64 + 1 := by
        intro t
        rw [t] at f8
        exact f8 (w % 64) rfl (by omega) two.2.2.symm
      exact fin y 0 (by omega) y2 (by omega) (by omega)
  have enu := CTP_enu (P := IsN (n9 S) (C9 S) (P9 S)) (a := fun x => 64 * (b9g_nodeLevel S x).toInt.toNat + (b9g_nodeLeaf S x).toInt.toNat) (m := m) (N := 512) (fun x hx => by
      obtain ⟨l, s, e, f1, f2, f3, f4, f5, f6, f7, f8⟩ := nat x hx
      have k := (st x l s e hx f1 f2 f3 f4 f5 f6 f7 f8).1
      refine ⟨?_, ?_⟩
      · show 64 * (b9g_nodeLevel S x).toInt.toNat + (b9g_nodeLeaf S x).toInt.toNat < 512
        omega
      · show IsN _ _ _ (64 * (b9g_nodeLevel S x).toInt.toNat + (b9g_nodeLeaf S x).toInt.toNat)
        rw [show (b9g_nodeLevel S x).toInt.toNat = l by omega, show (b9g_nodeLeaf S x).toInt.toNat = s by omega, IsN_at (by omega)]
        exact k) (fun x y hxy hy => by
      have q := ndp x y hxy hy
      have a := (hN x (by omega)).1
      have b := (hN y (by omega)).1
      show 64 * (b9g_nodeLevel S x).toInt.toNat + (b9g_nodeLeaf S x).toInt.toNat < 64 * (b9g_nodeLevel S y).toInt.toNat + (b9g_nodeLeaf S y).toInt.toNat
      omega) cov
  refine ⟨by rw [em]; exact enu.2.symm, fun w x hw hI hx => ?_⟩
  obtain ⟨y, y1, y2⟩ := cov w (by omega) hI
  have ey : NB (n9 S) (C9 S) (P9 S) (64 * (b9g_nodeLevel S y).toInt.toNat + (b9g_nodeLeaf S y).toInt.toNat) = (y : Int) := enu.1 y y1
  rw [y2] at ey
  have exy : x = y := by omega
  rw [exy]
  obtain ⟨l, s, e, f1, f2, f3, f4, f5, f6, f7, f8⟩ := nat y y1
  have k := (st y l s e y1 f1 f2 f3 f4 f5 f6 f7 f8).2
  have w1 : w / 64 = l := by omega
  have w2 : w % 64 = s := by omega
  rw [w1, w2]
  refine ⟨f1, f2, e, f3, ?_, fun z => by omega⟩
  rw [if_neg (show ¬ l = 8 by omega)]
  exact k
/-! the reference's questions of nodes -/
def N9 (S : bT9) : Prop := (b9g_nodeMany S).toInt = NB (n9 S) (C9 S) (P9 S) 512 ∧ NOD (n9 S) (C9 S) (P9 S) (b9g_nodeLevel S) (b9g_nodeLeaf S) (b9g_nodeLeaves S) 8 0
theorem NOD_at {n : Nat} {C : Nat → Nat} {P : Nat → Nat → Nat} {lv lf ls : Nat → Int32} {x : Nat} (h : NOD n C P lv lf ls 8 0) (hx : (x : Int) < NB n C P 512) : ∃ l s e : Nat, l ≤ 7 ∧ s < 64 ∧ NST n C P l s ∧ GRQ n C P l s e n ∧ (x : Int) = NB n C P (64 * l + s) ∧ (lv x).toInt = (l : Int) ∧ (lf x).toInt = (s : Int) ∧ (ls x).toInt = (e : Int) - (s : Int) := by
  obtain ⟨p, p1, p2, p3⟩ := CTP_inv (P := IsN n C P) (e := (x : Int)) (by omega) 512 hx
  have p3' : NB n C P p = (x : Int) := p3
  obtain ⟨a, b, e, g1, g2, g3⟩ := h p x (by omega) p2 p3'.symm
  rw [if_neg (show ¬ p / 64 = 8 by omega)] at g2
  refine ⟨p / 64, p % 64, e, by omega, by omega, p2, g2, ?_, a, b, g1⟩
  rw [show 64 * (p / 64) + p % 64 = p by omega]
  exact p3'.symm
theorem NOD_back {n : Nat} {C : Nat → Nat} {P : Nat → Nat → Nat} {lv lf ls : Nat → Int32} {l s : Nat} (h : NOD n C P lv lf ls 8 0) (h64 : n ≤ 64) (hl : l ≤ 7) (hs : NST n C P l s) {x : Nat} (hx : (x : Int) = NB n C P (64 * l + s)) : (x : Int) < NB n C P 512 ∧ (lv x).toInt = (l : Int) ∧ (lf x).toInt = (s : Int) := by
  have sn := hs.1
  have hI : IsN n C P (64 * l + s) := (IsN_at (by omega)).mpr hs
  have lt : NB n C P (64 * l + s) < NB n C P 512 := CTP_lt (by omega) hI
  obtain ⟨a, b, _⟩ := h (64 * l + s) x (by omega) hI hx
  rw [gd1 l (by omega)] at a
  rw [gd2 l (by omega)] at b
  exact ⟨by omega, a, b⟩
theorem fx9_lastOf {S : bT9} {a1 : Int32} {x s e : Nat} {Q : Int32 → Prop} (h : a1.toInt = (x : Int)) (hx : x < 512) (hf : (b9g_nodeLeaf S x).toInt = (s : Int)) (hc : (b9g_nodeLeaves S x).toInt = (e : Int) - (s : Int)) (h1 : s < e) (h2 : e ≤ 64) (hq : ∀ r : Int32, r.toInt = (e : Int) - 1 → Q r) : wp_X9_lastOf S a1 Q := by
  have em : a1.toNatClampNeg = x := by
    show a1.toInt.toNat = x
    omega
  unfold wp_X9_lastOf
  rw [em]
  refine ⟨pt_in (by omega) (by omega), pt_in (by omega) (by omega), hq _ ?_⟩
  have q : (b9g_nodeLeaf S x + b9g_nodeLeaves S x).toInt = (e : Int) := by rw [pt_add (by omega) (by omega)]; omega
  rw [pt_sub (by rw [q, pl_1]; omega) (by rw [q, pl_1]; omega), q, pl_1]
theorem lgs (x y : Int64) : lg_cmp x y = 0 ↔ x = y := by
  unfold lg_cmp
  by_cases h : x = y
  · subst h
    rw [if_neg (fun t => Int64.lt_irrefl t), if_pos rfl]
    exact ⟨fun _ => rfl, fun _ => rfl⟩
  · by_cases g : x > y
    · rw [if_pos g]
      exact ⟨fun q => absurd q (by decide), fun q => absurd q h⟩
    · rw [if_neg g, if_neg h]
      exact ⟨fun q => absurd q (by decide), fun q => absurd q h⟩
theorem fx9_isAlike {S : bT9} {a1 a2 a3 : Int32} {i j l : Nat} {Q : Int32 → Prop} (h1 : a1.toInt = (i : Int)) (h2 : a2.toInt = (j : Int)) (h3 : a3.toInt = (l : Int)) (hi : i < 64) (hj : j < 64) (hl : l ≤ 8) (hq : ∀ r : Int32, (r = 0 ↔ ¬ P9 S l i = P9 S l j) → Q r) : wp_X9_isAlike S a1 a2 a3 Q := by
  have e1 : a1.toNatClampNeg = i := by
    show a1.toInt.toNat = i
    omega
  have e2 : a2.toNatClampNeg = j := by
    show a2.toInt.toNat = j
    omega
  unfold wp_X9_isAlike
  refine fx9_key (by omega) (by omega) (fx9_cut (fx9_key (by omega) (by omega) (fx9_cut ?_)))
  rw [e1, e2]
  have k : lg_cmp (cutf (b9g_keys S (64 + i)) a3) (cutf (b9g_keys S (64 + j)) a3) = 0 ↔ P9 S l i = P9 S l j := by
    rw [lgs]
    have q := AK_iff (K := b9g_keys S) (l := a3) (i := i) (j := j) (by omega) (by omega)
    rw [show a3.toInt.toNat = l by omega] at q
    exact q
  refine ⟨fun c => ⟨rfl, hq _ ⟨fun _ => fun t => c (k.mpr t), fun _ => rfl⟩⟩, fun c => ⟨rfl, hq _ ⟨fun t => absurd t (by decide), fun t => absurd (k.mp c) t⟩⟩⟩
/-- a node of the reference, and a leaf of it -/
def AT9 (S : bT9) (x l s e : Nat) : Prop := x < 512 ∧ l ≤ 7 ∧ NST (n9 S) (C9 S) (P9 S) l s ∧ GRQ (n9 S) (C9 S) (P9 S) l s e (n9 S) ∧ (x : Int) = NB (n9 S) (C9 S) (P9 S) (64 * l + s) ∧ (b9g_nodeLevel S x).toInt = (l : Int) ∧ (b9g_nodeLeaf S x).toInt = (s : Int) ∧ (b9g_nodeLeaves S x).toInt = (e : Int) - (s : Int)
theorem AT9_of {S : bT9} (h : R9 S) (hN : N9 S) {x : Nat} (hx : (x : Int) < (b9g_nodeMany S).toInt) : ∃ l s e : Nat, AT9 S x l s e := by
  have n5 := NB_le h.1 (l := 7) (i := 64) (by omega) (by omega)
  have nb5 : NB (n9 S) (C9 S) (P9 S) (64 * 7 + 64) = NB (n9 S) (C9 S) (P9 S) 512 := rfl
  rw [hN.1] at hx
  obtain ⟨l, s, e, a, _, b, c, d, f, g, k⟩ := NOD_at hN.2 hx
  exact ⟨l, s, e, by omega, a, b, c, d, f, g, k⟩
theorem fx9_isBranch {S : bT9} (h : R9 S) {a1 a2 : Int32} {x l s e i : Nat} {Q : Int32 → Prop} (ha : AT9 S x l s e) (h1 : a1.toInt = (x : Int)) (h2 : a2.toInt = (i : Int)) (hsi : s ≤ i) (hie : i < e) (hq : ∀ r : Int32, (r = 0 ↔ ¬ (EST (n9 S) (C9 S) (P9 S) l i ∧ ¬ L9 S i = l)) → Q r) : wp_X9_isBranch S a1 a2 Q := by
  obtain ⟨G, h0, hb⟩ := h
  obtain ⟨x5, l7, hs, hg, hx, e1, e2, e3⟩ := ha
  have gn := hg.2.1
  have g64 := G.1
  have grp : ∀ q, s ≤ q → q ≤ i → l ≤ C9 S q ∧ P9 S l q = P9 S l s := fun q q1 q2 => hg.2.2.1 q q1 (by omega)
  have iff := EST_iff G hs grp hsi (by omega)
  have gi := (grp i hsi (Nat.le_refl _)).1
  have ai := G.2.1 i (by omega)
  have bi := hb i (by omega)
  have em : a1.toNatClampNeg = x := by
    show a1.toInt.toNat = x
    omega
  have ei : a2.toNatClampNeg = i := by
    show a2.toInt.toNat = i
    omega
  have yes : EST (n9 S) (C9 S) (P9 S) l i → ¬ L9 S i = l → wp_X9_isBranch_53 S Q := by
    intro p q
    unfold wp_X9_isBranch_53
    exact ⟨rfl, hq _ ⟨fun t => absurd t (by decide), fun t => absurd ⟨p, q⟩ t⟩⟩
  have no : ¬ (EST (n9 S) (C9 S) (P9 S) l i ∧ ¬ L9 S i = l) → bf_bool 0 ∧ Q 0 := fun p => ⟨rfl, hq _ ⟨fun _ => p, fun _ => rfl⟩⟩
  unfold wp_X9_isBranch
  rw [em, ei]
  refine ⟨pt_in (by omega) (by omega), pt_in (by omega) (by omega), fun c => no (fun t => ?_), fun c => ⟨pt_in (by omega) (by omega), fun d => ?_, fun d => ?_⟩⟩
  · simp only [pn] at c
    omega
  · simp only [pn] at c d
    exact yes (iff.mpr (Or.inr (Or.inl (by omega)))) (by omega)
  · simp only [pn] at c d
    have ni : ¬ i = s := by omega
    have e21 : (a2 - 1).toInt = ((i - 1 : Nat) : Int) := by rw [pt_sub (by rw [pl_1]; omega) (by rw [pl_1]; omega), pl_1]; omega
    have e22 : (a2 - 1).toNatClampNeg = i - 1 := by
      show (a2 - 1).toInt.toNat = i - 1
      omega
    have gp := (grp (i - 1) (by omega) (by omega)).1
    have ap := G.2.1 (i - 1) (by omega)
    have bp := hb (i - 1) (by omega)
    rw [e22]
    refine ⟨pt_in (by omega) (by omega), fun d2 => ?_, fun d2 => ?_⟩
    · simp only [pn] at d2
      exact yes (iff.mpr (Or.inr (Or.inr (Or.inl (by omega))))) (by omega)
    · simp only [pn] at d2
      have el1 : (b9g_nodeLevel S x + 1).toInt = ((l + 1 : Nat) : Int) := by rw [pt_add (by rw [pl_1]; omega) (by rw [pl_1]; omega), pl_1]; omega
      refine fx9_isAlike e21 h2 el1 (by omega) (by omega) (by omega) (fun r1 hr => ⟨fun c1 => no (fun t => ?_), fun c1 => yes (iff.mpr (Or.inr (Or.inr (Or.inr (hr.mp c1))))) (by omega)⟩)
      have pe : P9 S (l + 1) (i - 1) = P9 S (l + 1) i := Classical.byContradiction (fun z => c1 (hr.mpr z))
      rcases iff.mp t.1 with z | z | z | z
      · omega
      · exact ni z
      · omega
      · exact z pe
theorem NB_nn {n : Nat} {C : Nat → Nat} {P : Nat → Nat → Nat} (w : Nat) : 0 ≤ NB n C P w := (CTP_rng _ _).1
theorem fx9_childAt {S : bT9} (h : R9 S) (hN : N9 S) {a1 a2 : Int32} {x l s e i : Nat} {Q : Int32 → Prop} (ha : AT9 S x l s e) (h1 : a1.toInt = (x : Int)) (h2 : a2.toInt = (i : Int)) (hsi : s ≤ i) (hie : i < e) (hE : EST (n9 S) (C9 S) (P9 S) l i) (hq : ∀ r : Int32, (r = -1 ↔ C9 S i = l) → Q r) : wp_X9_childAt S a1 a2 Q := by
  have G := h.1
  have g64 := G.1
  obtain ⟨x5, l7, hs, hg, hx, e1, e2, e3⟩ := ha
  have gn := hg.2.1
  have gi := (hg.2.2.1 i hsi hie).1
  have ai := G.2.1 i (by omega)
  have n5 := NB_le G (l := 7) (i := 64) (by omega) (by omega)
  have nb5 : NB (n9 S) (C9 S) (P9 S) (64 * 7 + 64) = NB (n9 S) (C9 S) (P9 S) 512 := rfl
  have em : a1.toNatClampNeg = x := by
    show a1.toInt.toNat = x
    omega
  have hm := hN.1
  have el1 : (b9g_nodeLevel S x + 1).toInt = ((l + 1 : Nat) : Int) := by rw [pt_add (by rw [pl_1]; omega) (by rw [pl_1]; omega), pl_1]; omega
  have ea1 : (a1 + 1).toInt = ((x + 1 : Nat) : Int) := by rw [pt_add (by rw [pl_1]; omega) (by rw [pl_1]; omega), pl_1]; omega
  -- the child, if there is one
  have ch : ¬ C9 S i = l → ∃ y : Nat, x < y ∧ (y : Int) < NB (n9 S) (C9 S) (P9 S) 512 ∧ (b9g_nodeLevel S y).toInt = ((l + 1 : Nat) : Int) ∧ (b9g_nodeLeaf S y).toInt = (i : Int) := by
    intro z
    have ns : NST (n9 S) (C9 S) (P9 S) (l + 1) i := by
      rcases hE.2 with t | t
      · exact absurd t z
      · exact t
    have nn := NB_nn (n := n9 S) (C := C9 S) (P := P9 S) (64 * (l + 1) + i)
    obtain ⟨y, ey⟩ : ∃ y : Nat, (y : Int) = NB (n9 S) (C9 S) (P9 S) (64 * (l + 1) + i) := ⟨(NB (n9 S) (C9 S) (P9 S) (64 * (l + 1) + i)).toNat, by omega⟩
    have k := NOD_back hN.2 g64 (by omega) ns ey
    have lt : NB (n9 S) (C9 S) (P9 S) (64 * l + s) < NB (n9 S) (C9 S) (P9 S) (64 * (l + 1) + i) := CTP_lt (by omega) ((IsN_at (by omega)).mpr hs)
    exact ⟨y, by omega, k.1, k.2.1, k.2.2⟩
  unfold wp_X9_childAt wp_X9_childAt_14
  rw [em]
  refine ⟨pt_in (by omega) (by omega), fun k x2 x3 x4 => ∃ y : Nat, a2 = x2 ∧ x3.toInt = ((l + 1 : Nat) : Int) ∧ x4.toInt = (y : Int) ∧ x < y ∧ (y : Int) ≤ NB (n9 S) (C9 S) (P9 S) 512 ∧ (∀ z : Nat, x < z → z < y → (b9g_nodeLevel S z).toInt = ((l + 1 : Nat) : Int) → ¬ (b9g_nodeLeaf S z).toInt = (i : Int)) ∧ k = 600 - y, ⟨_, x + 1, rfl, el1, ea1, by omega, ?_, fun z z1 z2 => by omega, rfl⟩, ?_⟩
  · have lt : NB (n9 S) (C9 S) (P9 S) (64 * l + s) < NB (n9 S) (C9 S) (P9 S) 512 := CTP_lt (by have := hs.1; omega) ((IsN_at (by have := hs.1; omega)).mpr hs)
    omega
  rintro k x2 x3 x4 ⟨y, rfl, e3', e4, hxy, ym, hno, hk⟩
  suffices H : ∀ B : Int32 → Int32 → Int32 → Prop, ((y : Int) < NB (n9 S) (C9 S) (P9 S) 512 → ((b9g_nodeLevel S y).toInt = ((l + 1 : Nat) : Int) → ¬ (b9g_nodeLeaf S y).toInt = (i : Int)) → B a2 x3 (x4 + 1)) → wp_X9_childAt_14b S a2 x3 x4 Q B from H _ (fun hy t => ⟨600 - (y + 1), by omega, y + 1, rfl, e3', by rw [pt_add (by rw [pl_1]; omega) (by rw [pl_1]; omega), pl_1, e4]; omega, by omega, by omega, fun z z1 z2 z3 => by
      by_cases q : z = y
      · rw [q] at z3 ⊢
        exact t z3
      · exact hno z z1 (by omega) z3, rfl⟩)
  intro B hB
  have ey : x4.toNatClampNeg = y := by
    show x4.toInt.toNat = y
    omega
  have none : (∀ z : Nat, y ≤ z → (z : Int) < NB (n9 S) (C9 S) (P9 S) 512 → (b9g_nodeLevel S z).toInt = ((l + 1 : Nat) : Int) → False) → ((-1 : Int32) = -1 ↔ C9 S i = l) := by
    intro p
    refine ⟨fun _ => ?_, fun _ => rfl⟩
    apply Classical.byContradiction
    intro q
    obtain ⟨z, z1, z2, z3, z4⟩ := ch q
    by_cases t : z < y
    · exact hno z z1 t z3 z4
    · exact p z (by omega) z2 z3
  unfold wp_X9_childAt_14b
  rw [ey]
  refine ⟨fun c => hq _ (none (fun z z1 z2 _ => ?_)), fun c => ?_⟩
  · simp only [pn] at c
    omega
  simp only [pn] at c
  obtain ⟨l', s', e', _, _, f3, f4, f5, f6, f7, f8⟩ := NOD_at (x := y) hN.2 (by omega)
  have s64 := f3.1
  refine ⟨pt_in (by omega) (by omega), fun d => hq _ (none (fun z z1 z2 z3 => ?_)), fun d => ⟨pt_in (by omega) (by omega), fun d2 => hB (by omega) (fun t => ?_), fun d2 => ⟨pt_in (by omega) (by omega), fun d3 => hB (by omega) (fun _ t => ?_), fun d3 => hq _ ?_⟩⟩⟩
  · simp only [pn] at d
    obtain ⟨l2, s2, e2', _, _, g3, g4, g5, g6, g7, g8⟩ := NOD_at (x := z) hN.2 z2
    have := g3.1
    by_cases zy : z = y
    · rw [zy] at z3
      omega
    · have lt : 64 * l' + s' < 64 * l2 + s2 := by
        apply Classical.byContradiction
        intro t
        have := NB_mono (n := n9 S) (C := C9 S) (P := P9 S) (show 64 * l2 + s2 ≤ 64 * l' + s' by omega)
        omega
      omega
  · simp only [pn] at d2
    omega
  · simp only [pn] at d3
    omega
  · simp only [pn] at d2 d3
    refine ⟨fun t => ?_, fun t => ?_⟩
    · rw [t, pl_m1] at e4
      omega
    · exfalso
      have q := f3.2.1
      have el : l' = l + 1 := by omega
      have es : s' = i := by omega
      rw [el, es] at q
      omega
theorem fx9_isNodeEnd {S : bT9} (h : R9 S) {a1 : Int32} {x l s e : Nat} {Q : Int32 → Prop} (ha : AT9 S x l s e) (h1 : a1.toInt = (x : Int)) (hq : ∀ r : Int32, (r = 0 ↔ ¬ L9 S s = l) → Q r) : wp_X9_isNodeEnd S a1 Q := by
  obtain ⟨G, h0, hb⟩ := h
  obtain ⟨x5, l7, hs, hg, hx, e1, e2, e3⟩ := ha
  have g64 := G.1
  have sn := hs.1
  have bs := hb s sn
  have as := G.2.1 s sn
  have cs := hs.2.1
  have em : a1.toNatClampNeg = x := by
    show a1.toInt.toNat = x
    omega
  have es : (b9g_nodeLeaf S x).toNatClampNeg = s := by
    show (b9g_nodeLeaf S x).toInt.toNat = s
    omega
  unfold wp_X9_isNodeEnd
  rw [em, es]
  refine ⟨pt_in (by omega) (by omega), pt_in (by omega) (by omega), pt_in (by omega) (by omega), fun c => ⟨rfl, hq _ ⟨fun _ => ?_, fun _ => rfl⟩⟩, fun c => ⟨rfl, hq _ ⟨fun t => absurd t (by decide), fun t => ?_⟩⟩⟩
  · simp only [pn] at c
    omega
  · simp only [pn] at c
    exfalso
    omega
/-! branches, kids, ends -/
def IsB (n : Nat) (C L : Nat → Nat) (P : Nat → Nat → Nat) (w : Nat) : Prop := IsE n C P w ∧ ¬ L (w % 64) = w / 64
def IsK (n : Nat) (C : Nat → Nat) (P : Nat → Nat → Nat) (w : Nat) : Prop := IsE n C P w ∧ ¬ C (w % 64) = w / 64
def IsD (n : Nat) (C L : Nat → Nat) (P : Nat → Nat → Nat) (w : Nat) : Prop := IsE n C P w ∧ L (w % 64) = w / 64
noncomputable def BB (n : Nat) (C L : Nat → Nat) (P : Nat → Nat → Nat) (w : Nat) : Int := CTP (IsB n C L P) w
noncomputable def KB (n : Nat) (C : Nat → Nat) (P : Nat → Nat → Nat) (w : Nat) : Int := CTP (IsK n C P) w
noncomputable def DB (n : Nat) (C L : Nat → Nat) (P : Nat → Nat → Nat) (w : Nat) : Int := CTP (IsD n C L P) w
theorem CTP_part (Q R : Nat → Prop) : ∀ n : Nat, CTP (fun w => Q w ∧ R w) n + CTP (fun w => Q w ∧ ¬ R w) n = CTP Q n := by
  intro n
  induction n with
  | zero => rfl
  | succ n ih =>
    by_cases q : Q n
    · by_cases r : R n
      · rw [CTP_y (P := fun w => Q w ∧ R w) ⟨q, r⟩, CTP_n (P := fun w => Q w ∧ ¬ R w) (fun z => z.2 r), CTP_y q]
        omega
      · rw [CTP_n (P := fun w => Q w ∧ R w) (fun z => r z.2), CTP_y (P := fun w => Q w ∧ ¬ R w) ⟨q, r⟩, CTP_y q]
        omega
    · rw [CTP_n (P := fun w => Q w ∧ R w) (fun z => q z.1), CTP_n (P := fun w => Q w ∧ ¬ R w) (fun z => q z.1), CTP_n q]
      exact ih
theorem DB_BB {n : Nat} {C L : Nat → Nat} {P : Nat → Nat → Nat} (w : Nat) : DB n C L P w + BB n C L P w = EB n C P w := CTP_part (IsE n C P) (fun w => L (w % 64) = w / 64) w
theorem DB_grp {n : Nat} {C L : Nat → Nat} {P : Nat → Nat → Nat} (G : GRD n C L P) {l s e : Nat} (hs : NST n C P l s) (hg : GRQ n C P l s e n) : (L s = l → DB n C L P (64 * l + e) = DB n C L P (64 * l + s) + 1) ∧ (¬ L s = l → DB n C L P (64 * l + e) = DB n C L P (64 * l + s)) := by
  have g64 := G.1
  have a := hg.1
  have b := hg.2.1
  have as := G.2.1 s hs.1
  have cs := hs.2.1
  have rest : DB n C L P (64 * l + e) = DB n C L P (64 * l + s + 1) := by
    refine CTP_st _ (by omega) (fun w p q r => ?_)
    have ew : w = 64 * l + (w - 64 * l) := by omega
    have r2 := r.2
    rw [ew, gd1 l (by omega), gd2 l (by omega)] at r2
    have := END_first G (l := l) (s := s) (i := w - 64 * l) (fun k k1 k2 => hg.2.2.1 k k1 (by omega)) (by omega) (by omega) r2
    omega
  have hl : (64 * l + s) / 64 = l := gd1 l (by omega)
  have hm : (64 * l + s) % 64 = s := gd2 l (by omega)
  refine ⟨fun z => ?_, fun z => ?_⟩
  · rw [rest]
    refine CTP_y ⟨(IsE_at (by omega)).mpr ⟨hs.1, Or.inl (by omega)⟩, ?_⟩
    rw [hl, hm]
    exact z
  · rw [rest]
    refine CTP_n (fun t => z ?_)
    have := t.2
    rw [hl, hm] at this
    exact this
theorem fx9_branchMany {S : bT9} (h : R9 S) {a1 : Int32} {x l s e : Nat} {Q : Int32 → Prop} (ha : AT9 S x l s e) (h1 : a1.toInt = (x : Int)) (hq : ∀ r : Int32, r.toInt = BB (n9 S) (C9 S) (L9 S) (P9 S) (64 * l + e) - BB (n9 S) (C9 S) (L9 S) (P9 S) (64 * l + s) → 0 ≤ r.toInt → r.toInt ≤ 64 → Q r) : wp_X9_branchMany S a1 Q := by
  have g64 := h.1.1
  have ha' := ha
  obtain ⟨x5, l7, hs, hg, hx, e1, e2, e3⟩ := ha'
  have ge := hg.1
  have gn := hg.2.1
  have em : a1.toNatClampNeg = x := by
    show a1.toInt.toNat = x
    omega
  unfold wp_X9_branchMany wp_X9_branchMany_9
  rw [em]
  refine ⟨pt_in (by omega) (by omega), fun k x1 x2 x3 => ∃ i : Nat, a1 = x1 ∧ x3.toInt = (i : Int) ∧ s ≤ i ∧ i ≤ e ∧ x2.toInt = BB (n9 S) (C9 S) (L9 S) (P9 S) (64 * l + i) - BB (n9 S) (C9 S) (L9 S) (P9 S) (64 * l + s) ∧ 0 ≤ x2.toInt ∧ x2.toInt ≤ (i : Int) - (s : Int) ∧ k = e - i, ⟨_, s, rfl, e2, Nat.le_refl _, by omega, by rw [pl_0]; omega, by decide, by rw [pl_0]; omega, rfl⟩, ?_⟩
  rintro k x1 x2 x3 ⟨i, rfl, e3', hsi, hie, hv, v0, v1, hk⟩
  suffices H : ∀ B : Int32 → Int32 → Int32 → Prop, (∀ v : Int32, i < e → v.toInt = BB (n9 S) (C9 S) (L9 S) (P9 S) (64 * l + (i + 1)) - BB (n9 S) (C9 S) (L9 S) (P9 S) (64 * l + s) → 0 ≤ v.toInt → v.toInt ≤ (i : Int) + 1 - (s : Int) → B a1 v (x3 + 1)) → wp_X9_branchMany_9b S a1 x2 x3 Q B from H _ (fun v hi t1 t2 t3 => ⟨e - (i + 1), by omega, i + 1, rfl, by rw [pt_add (by rw [pl_1]; omega) (by rw [pl_1]; omega), pl_1, e3']; omega, by omega, by omega, t1, t2, by omega, rfl⟩)
  intro B hB
  unfold wp_X9_branchMany_9b
  refine fx9_lastOf h1 x5 e2 e3 ge (by omega) (fun r1 hr => ⟨fun c => ?_, fun c => ?_⟩)
  · simp only [pn] at c
    have ei : i = e := by omega
    rw [ei] at hv
    exact hq x2 hv v0 (by omega)
  simp only [pn] at c
  have w1 : (64 * l + i) / 64 = l := gd1 l (by omega)
  have w2 : (64 * l + i) % 64 = i := gd2 l (by omega)
  have iff : IsB (n9 S) (C9 S) (L9 S) (P9 S) (64 * l + i) ↔ (EST (n9 S) (C9 S) (P9 S) l i ∧ ¬ L9 S i = l) := by
    unfold IsB
    rw [IsE_at (by omega), w1, w2]
  refine fx9_isBranch h ha h1 e3' hsi (by omega) (fun r3 hr3 => ⟨fun d => ?_, fun d => ?_⟩)
  · unfold wp_X9_branchMany_31
    have t : BB (n9 S) (C9 S) (L9 S) (P9 S) (64 * l + (i + 1)) = BB (n9 S) (C9 S) (L9 S) (P9 S) (64 * l + i) := CTP_n (fun z => hr3.mp d (iff.mp z))
    exact hB x2 (by omega) (by rw [t]; exact hv) v0 (by omega)
  · unfold wp_X9_branchMany_31
    have hB1 : IsB (n9 S) (C9 S) (L9 S) (P9 S) (64 * l + i) := iff.mpr (Classical.byContradiction (fun z => d (hr3.mpr z)))
    have t : BB (n9 S) (C9 S) (L9 S) (P9 S) (64 * l + (i + 1)) = BB (n9 S) (C9 S) (L9 S) (P9 S) (64 * l + i) + 1 := CTP_y hB1
    have e21 : (x2 + 1).toInt = x2.toInt + 1 := by rw [pt_add (by rw [pl_1]; omega) (by rw [pl_1]; omega), pl_1]
    exact hB (x2 + 1) (by omega) (by rw [t, e21]; omega) (by omega) (by omega)
theorem fx9_kidMany {S : bT9} (h : R9 S) (hN : N9 S) {a1 : Int32} {x l s e : Nat} {Q : Int32 → Prop} (ha : AT9 S x l s e) (h1 : a1.toInt = (x : Int)) (hq : ∀ r : Int32, r.toInt = KB (n9 S) (C9 S) (P9 S) (64 * l + e) - KB (n9 S) (C9 S) (P9 S) (64 * l + s) → Q r) : wp_X9_kidMany S a1 Q := by
  have g64 := h.1.1
  have ha' := ha
  obtain ⟨x5, l7, hs, hg, hx, e1, e2, e3⟩ := ha'
  have ge := hg.1
  have gn := hg.2.1
  have em : a1.toNatClampNeg = x := by
    show a1.toInt.toNat = x
    omega
  unfold wp_X9_kidMany wp_X9_kidMany_9
  rw [em]
  refine ⟨pt_in (by omega) (by omega), fun k x1 x2 x3 => ∃ i : Nat, a1 = x1 ∧ x3.toInt = (i : Int) ∧ s ≤ i ∧ i ≤ e ∧ x2.toInt = KB (n9 S) (C9 S) (P9 S) (64 * l + i) - KB (n9 S) (C9 S) (P9 S) (64 * l + s) ∧ 0 ≤ x2.toInt ∧ x2.toInt ≤ (i : Int) - (s : Int) ∧ k = e - i, ⟨_, s, rfl, e2, Nat.le_refl _, by omega, by rw [pl_0]; omega, by decide, by rw [pl_0]; omega, rfl⟩, ?_⟩
  rintro k x1 x2 x3 ⟨i, rfl, e3', hsi, hie, hv, v0, v1, hk⟩
  suffices H : ∀ B : Int32 → Int32 → Int32 → Prop, (∀ v : Int32, i < e → v.toInt = KB (n9 S) (C9 S) (P9 S) (64 * l + (i + 1)) - KB (n9 S) (C9 S) (P9 S) (64 * l + s) → 0 ≤ v.toInt → v.toInt ≤ (i : Int) + 1 - (s : Int) → B a1 v (x3 + 1)) → wp_X9_kidMany_9b S a1 x2 x3 Q B from H _ (fun v hi t1 t2 t3 => ⟨e - (i + 1), by omega, i + 1, rfl, by rw [pt_add (by rw [pl_1]; omega) (by rw [pl_1]; omega), pl_1, e3']; omega, by omega, by omega, t1, t2, by omega, rfl⟩)
  intro B hB
  unfold wp_X9_kidMany_9b
  refine fx9_lastOf h1 x5 e2 e3 ge (by omega) (fun r1 hr => ⟨fun c => ?_, fun c => ?_⟩)
  · simp only [pn] at c
    have ei : i = e := by omega
    rw [ei] at hv
    exact hq x2 hv
  simp only [pn] at c
  have w1 : (64 * l + i) / 64 = l := gd1 l (by omega)
  have w2 : (64 * l + i) % 64 = i := gd2 l (by omega)
  have ci := (hg.2.2.1 i hsi (by omega)).1
  have ai := h.1.2.1 i (by omega)
  have iff : IsK (n9 S) (C9 S) (P9 S) (64 * l + i) ↔ (EST (n9 S) (C9 S) (P9 S) l i ∧ ¬ C9 S i = l) := by
    unfold IsK
    rw [IsE_at (by omega), w1, w2]
  have no : ¬ IsK (n9 S) (C9 S) (P9 S) (64 * l + i) → wp_X9_kidMany_41 S a1 x2 x3 Q B := by
    intro z
    unfold wp_X9_kidMany_41
    have t : KB (n9 S) (C9 S) (P9 S) (64 * l + (i + 1)) = KB (n9 S) (C9 S) (P9 S) (64 * l + i) := CTP_n z
    exact hB x2 (by omega) (by rw [t]; exact hv) v0 (by omega)
  refine fx9_isBranch h ha h1 e3' hsi (by omega) (fun r3 hr3 => ⟨fun d => no (fun z => ?_), fun d => ?_⟩)
  · have q := iff.mp z
    exact hr3.mp d ⟨q.1, by have := q.2; omega⟩
  · have q : EST (n9 S) (C9 S) (P9 S) l i ∧ ¬ L9 S i = l := Classical.byContradiction (fun z => d (hr3.mpr z))
    refine fx9_childAt h hN ha h1 e3' hsi (by omega) q.1 (fun r5 hr5 => ⟨fun d5 => no (fun z => (iff.mp z).2 (hr5.mp d5)), fun d5 => ?_⟩)
    unfold wp_X9_kidMany_41
    have t : KB (n9 S) (C9 S) (P9 S) (64 * l + (i + 1)) = KB (n9 S) (C9 S) (P9 S) (64 * l + i) + 1 := CTP_y (iff.mpr ⟨q.1, fun z => d5 (hr5.mpr z)⟩)
    have e21 : (x2 + 1).toInt = x2.toInt + 1 := by rw [pt_add (by rw [pl_1]; omega) (by rw [pl_1]; omega), pl_1]
    exact hB (x2 + 1) (by omega) (by rw [t, e21]; omega) (by omega) (by omega)
theorem fx9_bitsOf {S : bT9} (h : R9 S) {a1 a2 : Int32} {x l s e : Nat} {Q : Int32 → Prop} (ha : AT9 S x l s e) (h1 : a1.toInt = (x : Int)) (hq : ∀ r : Int32, (a2 = 0 → r.toInt = 11 * (EB (n9 S) (C9 S) (P9 S) (64 * l + e) - EB (n9 S) (C9 S) (P9 S) (64 * l + s))) → (¬ a2 = 0 → r.toInt = 513) → Q r) : wp_X9_bitsOf S a1 a2 Q := by
  have ha' := ha
  obtain ⟨x5, l7, hs, hg, hx, e1, e2, e3⟩ := ha'
  have d := DB_grp h.1 hs hg
  have p1 := DB_BB (n := n9 S) (C := C9 S) (L := L9 S) (P := P9 S) (64 * l + e)
  have p2 := DB_BB (n := n9 S) (C := C9 S) (L := L9 S) (P := P9 S) (64 * l + s)
  unfold wp_X9_bitsOf
  refine ⟨fun c => fx9_branchMany h ha h1 (fun r1 v1 v2 v3 => fx9_isNodeEnd h ha h1 (fun r3 hr3 => ⟨fun d3 => hq _ (fun _ => ?_) (fun z => absurd c z), fun d3 => hq _ (fun _ => ?_) (fun z => absurd c z)⟩)), fun c => hq _ (fun z => absurd z c) (fun _ => rfl)⟩
  · have dd := d.2 (hr3.mp d3)
    have q : (r1 + 0).toInt = r1.toInt := by rw [pt_add (by rw [pl_0]; omega) (by rw [pl_0]; omega), pl_0]; omega
    rw [pt_mul (by rw [q]; show _ ≤ 11 * _; omega) (by rw [q]; show 11 * _ < _; omega), q]
    show 11 * _ = _
    omega
  · have dd := d.1 (Classical.byContradiction (fun z => d3 (hr3.mpr z)))
    have q : (r1 + 1).toInt = r1.toInt + 1 := by rw [pt_add (by rw [pl_1]; omega) (by rw [pl_1]; omega), pl_1]
    rw [pt_mul (by rw [q]; show _ ≤ 11 * _; omega) (by rw [q]; show 11 * _ < _; omega), q]
    show 11 * _ = _
    omega
theorem fx9_bitsAbove {S : bT9} (h : R9 S) (hN : N9 S) {a1 : Int32} {u : Nat} {Q : Int32 → Prop} (hu : a1.toInt = (u : Int)) (h8 : u ≤ 8) (hq : ∀ r : Int32, r.toInt = BTN (n9 S) (C9 S) (P9 S) u → Q r) : wp_X9_bitsAbove S a1 Q := by
  have n5 := NB_le h.1 (l := 7) (i := 64) (by omega) (by omega)
  have nb5 : NB (n9 S) (C9 S) (P9 S) (64 * 7 + 64) = NB (n9 S) (C9 S) (P9 S) 512 := rfl
  have nu := NB_nn (n := n9 S) (C := C9 S) (P := P9 S) (64 * u)
  have nm := NB_mono (n := n9 S) (C := C9 S) (P := P9 S) (show 64 * u ≤ 512 by omega)
  have g64 := h.1.1
  have hm := hN.1
  unfold wp_X9_bitsAbove wp_X9_bitsAbove_4
  refine ⟨fun k x1 x2 x3 => ∃ x : Nat, a1 = x1 ∧ x3.toInt = (x : Int) ∧ (x : Int) ≤ NB (n9 S) (C9 S) (P9 S) 512 ∧ x2.toInt = 513 * min (x : Int) (NB (n9 S) (C9 S) (P9 S) (64 * u)) ∧ k = 600 - x, ⟨_, 0, rfl, rfl, by omega, by rw [pl_0]; omega, rfl⟩, ?_⟩
  rintro k x1 x2 x3 ⟨x, rfl, e3, xm, hv, hk⟩
  suffices H : ∀ B : Int32 → Int32 → Int32 → Prop, (∀ v : Int32, (x : Int) < NB (n9 S) (C9 S) (P9 S) 512 → v.toInt = 513 * min ((x : Int) + 1) (NB (n9 S) (C9 S) (P9 S) (64 * u)) → B a1 v (x3 + 1)) → wp_X9_bitsAbove_4b S a1 x2 x3 Q B from H _ (fun v hx t => ⟨600 - (x + 1), by omega, x + 1, rfl, by rw [pt_add (by rw [pl_1]; omega) (by rw [pl_1]; omega), pl_1, e3]; omega, by omega, by rw [t]; omega, rfl⟩)
  intro B hB
  have ex : x3.toNatClampNeg = x := by
    show x3.toInt.toNat = x
    omega
  unfold wp_X9_bitsAbove_4b
  rw [ex]
  refine ⟨fun c => hq x2 ?_, fun c => ?_⟩
  · simp only [pn] at c
    unfold BTN
    rw [hv]
    omega
  simp only [pn] at c
  obtain ⟨l, s, e, ha⟩ := AT9_of h hN (x := x) (by omega)
  obtain ⟨x5, l7, hs, hg, hx, f1, f2, f3⟩ := ha
  have sn := hs.1
  refine ⟨pt_in (by omega) (by omega), fun d => ?_, fun d v1 ev => ?_⟩
  · simp only [pn] at d
    unfold wp_X9_bitsAbove_28
    have mn := NB_mono (n := n9 S) (C := C9 S) (P := P9 S) (show 64 * u ≤ 64 * l + s by omega)
    exact hB x2 (by omega) (by omega)
  · simp only [pn] at d
    unfold wp_X9_bitsAbove_28
    have lt : NB (n9 S) (C9 S) (P9 S) (64 * l + s) < NB (n9 S) (C9 S) (P9 S) (64 * u) := CTP_lt (by omega) ((IsN_at (by omega)).mpr hs)
    have q : v1.toInt = x2.toInt + 513 := by rw [ev, pt_add (by show _ ≤ _ + 513; omega) (by show _ + 513 < _; omega)]; rfl
    exact hB v1 (by omega) (by omega)
theorem fx9_bitsBelow {S : bT9} (h : R9 S) (hN : N9 S) {a1 : Int32} {u : Nat} {Q : Int32 → Prop} (hu : a1.toInt = (u : Int)) (h8 : u ≤ 8) (hq : ∀ r : Int32, r.toInt = BTE (n9 S) (C9 S) (P9 S) u → Q r) : wp_X9_bitsBelow S a1 Q := by
  have G := h.1
  have n5 := NB_le h.1 (l := 7) (i := 64) (by omega) (by omega)
  have nb5 : NB (n9 S) (C9 S) (P9 S) (64 * 7 + 64) = NB (n9 S) (C9 S) (P9 S) 512 := rfl
  have e5 := EB_le G (w := 512) (by omega)
  have eu := EB_le G (w := 64 * u) (by omega)
  have g64 := h.1.1
  have hm := hN.1
  obtain ⟨p0, q1, q2, q3, q4, q5, q6⟩ := NB_pos (n := n9 S) (C := C9 S) (P := P9 S) (b := 0) (x := 0) (by omega) rfl
  have z0E : EB (n9 S) (C9 S) (P9 S) p0 = 0 := EB_gap g64 (l := 0) (e := 0) (by omega) (fun a b => ⟨a, b, Or.inl rfl⟩) (by omega) (fun w a b => q6 w (by omega) b)
  unfold wp_X9_bitsBelow wp_X9_bitsBelow_4
  refine ⟨fun k x1 x2 x3 => ∃ x p : Nat, a1 = x1 ∧ x3.toInt = (x : Int) ∧ p ≤ 512 ∧ (x : Int) = NB (n9 S) (C9 S) (P9 S) p ∧ ((x : Int) < NB (n9 S) (C9 S) (P9 S) 512 → IsN (n9 S) (C9 S) (P9 S) p) ∧ (¬ (x : Int) < NB (n9 S) (C9 S) (P9 S) 512 → p = 512) ∧ x2.toInt = 11 * max 0 (EB (n9 S) (C9 S) (P9 S) p - EB (n9 S) (C9 S) (P9 S) (64 * u)) ∧ k = 600 - x, ⟨_, 0, p0, rfl, rfl, q2, q3, fun t => (q4 t).2, q5, by rw [pl_0, z0E]; omega, rfl⟩, ?_⟩
  rintro k x1 x2 x3 ⟨x, p, rfl, e3, p5, hx, pN, pE, hv, hk⟩
  have mx := NB_mono (n := n9 S) (C := C9 S) (P := P9 S) p5
  suffices H : ∀ B : Int32 → Int32 → Int32 → Prop, (∀ (v : Int32) (p' : Nat), (x : Int) < NB (n9 S) (C9 S) (P9 S) 512 → p' ≤ 512 → ((x + 1 : Nat) : Int) = NB (n9 S) (C9 S) (P9 S) p' → (((x + 1 : Nat) : Int) < NB (n9 S) (C9 S) (P9 S) 512 → IsN (n9 S) (C9 S) (P9 S) p') → (¬ ((x + 1 : Nat) : Int) < NB (n9 S) (C9 S) (P9 S) 512 → p' = 512) → v.toInt = 11 * max 0 (EB (n9 S) (C9 S) (P9 S) p' - EB (n9 S) (C9 S) (P9 S) (64 * u)) → B a1 v (x3 + 1)) → wp_X9_bitsBelow_4b S a1 x2 x3 Q B from H _ (fun v p' hx t1 t2 t3 t4 t5 => ⟨600 - (x + 1), by omega, x + 1, p', rfl, by rw [pt_add (by rw [pl_1]; omega) (by rw [pl_1]; omega), pl_1, e3]; omega, t1, t2, t3, t4, t5, rfl⟩)
  intro B hB
  have ex : x3.toNatClampNeg = x := by
    show x3.toInt.toNat = x
    omega
  unfold wp_X9_bitsBelow_4b
  rw [ex]
  refine ⟨fun c => hq x2 ?_, fun c => ?_⟩
  · simp only [pn] at c
    have pp := pE (by omega)
    subst pp
    have mn := EB_mono (n := n9 S) (C := C9 S) (P := P9 S) (show 64 * u ≤ 512 by omega)
    unfold BTE
    rw [hv]
    omega
  simp only [pn] at c
  have pI := pN (by omega)
  obtain ⟨l, s, e, ha⟩ := AT9_of h hN (x := x) (by omega)
  have ha' := ha
  obtain ⟨x5, l7, hs, hg, hx2, f1, f2, f3⟩ := ha'
  have sn := hs.1
  have ge := hg.1
  have gn := hg.2.1
  have ep : p = 64 * l + s := CTP_inj (P := IsN (n9 S) (C9 S) (P9 S)) pI ((IsN_at (by omega)).mpr hs) (by show NB _ _ _ p = NB _ _ _ (64 * l + s); omega)
  have ng := NB_grp g64 hs hg
  obtain ⟨p', r1, r2, r3, r4, r5, r6⟩ := NB_pos (n := n9 S) (C := C9 S) (P := P9 S) (b := 64 * l + e) (x := x + 1) (by omega) (by omega)
  have eg := EB_gap g64 (l := l) (e := e) (by omega) (GRQ_cl hg) r1 r6
  have eb1 := EB_le G (w := 64 * l + e) (by omega)
  have eb2 := EB_le G (w := 64 * l + s) (by omega)
  refine ⟨pt_in (by omega) (by omega), fun d => ?_, fun d => ?_⟩
  · simp only [pn] at d
    unfold wp_X9_bitsBelow_31
    have m1 := EB_mono (n := n9 S) (C := C9 S) (P := P9 S) (show 64 * l + s ≤ 64 * u by omega)
    have m2 := EB_mono (n := n9 S) (C := C9 S) (P := P9 S) (show 64 * l + e ≤ 64 * u by omega)
    refine hB x2 p' (by omega) r2 r3 (fun t => (r4 t).2) r5 ?_
    rw [hv, eg, ep]
    omega
  · simp only [pn] at d
    have m1 := EB_mono (n := n9 S) (C := C9 S) (P := P9 S) (show 64 * u ≤ 64 * l + s by omega)
    have m2 := EB_mono (n := n9 S) (C := C9 S) (P := P9 S) (show 64 * l + s ≤ 64 * l + e by omega)
    rw [ep] at hv
    refine fx9_bitsOf h ha e3 (fun r1' hr1 _ => ?_)
    have hr := hr1 rfl
    unfold wp_X9_bitsBelow_31
    refine hB (x2 + r1') p' (by omega) r2 r3 (fun t => (r4 t).2) r5 ?_
    rw [pt_add (by omega) (by omega), hv, hr, eg]
    omega
def UP9 (n : Nat) (C : Nat → Nat) (P : Nat → Nat → Nat) (de ra : Int32) (lv u : Nat) : Prop := (lv = 0 → u = 0) ∧ (¬ lv = 0 → (9 ≤ de.toInt → UPR n C P ra lv u) ∧ (de.toInt < 9 → (u : Int) = min de.toInt (lv : Int)))
theorem fx9_upperBy {S : bT9} (h : R9 S) (hN : N9 S) {a1 : Int32} {lv : Nat} {Q : Int32 → Prop} (hl : (b9g_levelMany S).toInt = (lv : Int)) (h8 : lv ≤ 8) (hd : ¬ lv = 0 → 0 ≤ a1.toInt) (hq : ∀ (r : Int32) (u : Nat), r.toInt = (u : Int) → u ≤ lv → UP9 (n9 S) (C9 S) (P9 S) a1 (b9g_now S 14) lv u → Q r) : wp_X9_upperBy S a1 Q := by
  have G := h.1
  unfold wp_X9_upperBy
  refine ⟨fun c => ?_, fun c => hq 0 0 rfl (by omega) ⟨fun _ => rfl, fun z => absurd ?_ z⟩⟩
  · have nl : ¬ lv = 0 := by
      intro z
      exact c (Int32.toInt_inj.mp (by rw [hl, z]; rfl))
    refine ⟨fun d => ?_, fun d => ⟨fun d2 => ?_, fun d2 => ?_⟩⟩
    · simp only [pn] at d
      unfold wp_X9_upperBy_37
      refine ⟨fun k x2 => ∃ i : Nat, x2.toInt = (i : Int) ∧ i ≤ lv ∧ (∀ q, i < q → q ≤ lv → ¬ COU (n9 S) (C9 S) (P9 S) (b9g_now S 14) q) ∧ k = i, ⟨_, lv, hl, Nat.le_refl _, fun q a b => by omega, rfl⟩, ?_⟩
      rintro k x2 ⟨i, e2, hi, hno, hk⟩
      unfold wp_X9_upperBy_37b
      refine ⟨pt_in (by decide) (by decide), fx9_bitsAbove h hN e2 (by omega) (fun r1 hr1 => fx9_bitsBelow h hN e2 (by omega) (fun r3 hr3 => ?_))⟩
      have key := COU_iff (ra := b9g_now S 14) hr1 hr3
      have e14 : b9g_now S ((14 : Int32)).toNatClampNeg = b9g_now S 14 := rfl
      rw [e14]
      refine ⟨fun c1 => hq x2 i e2 hi ⟨fun z => absurd z nl, fun _ => ⟨fun _ => ⟨hi, Or.inr (key.mpr ?_), hno⟩, fun z => by omega⟩⟩, fun c1 => ?_⟩
      · simp only [pn] at c1 ⊢
        omega
      · have nc : ¬ COU (n9 S) (C9 S) (P9 S) (b9g_now S 14) i := by
          intro z
          have := key.mp z
          simp only [pn] at c1 this
          omega
        have ni : ¬ i = 0 := by
          intro z
          subst z
          have r10 : r1 = 0 := by
            refine Int32.toInt_inj.mp (hr1.trans ?_)
            rfl
          have e5 := EB_le G (w := 512) (by omega)
          have e0 : EB (n9 S) (C9 S) (P9 S) (64 * 0) = 0 := rfl
          unfold BTE at hr3
          rw [r10, Int32.mul_zero] at c1
          simp only [pn] at c1
          omega
        refine ⟨i - 1, by omega, i - 1, by rw [pt_sub (by rw [pl_1]; omega) (by rw [pl_1]; omega), pl_1, e2]; omega, by omega, fun q a b => ?_, rfl⟩
        by_cases z : q = i
        · rw [z]; exact nc
        · exact hno q (by omega) b
    · simp only [pn] at d d2
      exact hq _ lv hl (Nat.le_refl _) ⟨fun z => absurd z nl, fun _ => ⟨fun z => by omega, fun _ => by omega⟩⟩
    · simp only [pn] at d d2
      have d0 := hd nl
      exact hq _ a1.toInt.toNat (by omega) (by omega) ⟨fun z => absurd z nl, fun _ => ⟨fun z => by omega, fun _ => by omega⟩⟩
  · have z : (b9g_levelMany S).toInt = 0 := by rw [c]; rfl
    omega
/-! items and places of the reference -/
def IAR (n : Nat) (C L : Nat → Nat) (P : Nat → Nat → Nat) (f : Nat → Int64) (inn ib ic : Nat → Int32) (w0 b : Nat) : Prop := ∀ w y : Nat, w0 ≤ w → w < b → IsE n C P w → (y : Int) = EB n C P w - EB n C P w0 → (inn y).toInt = NB n C P (w + 1) - 1 ∧ ib y = OCV f L w ∧ (ic y = -1 ↔ C (w % 64) = w / 64)
def PLR (n : Nat) (C : Nat → Nat) (po lp : Nat → Int32) (b : Nat) : Prop := ∀ w z : Nat, w < b → IsL n C w → (z : Int) = LB n C w → (po (w % 64)).toInt = LB n C w ∧ (lp z).toInt = ((w % 64 : Nat) : Int)
theorem IAR_skip {n : Nat} {C L : Nat → Nat} {P : Nat → Nat → Nat} {f : Nat → Int64} {inn ib ic : Nat → Int32} {w0 b d : Nat} (h : IAR n C L P f inn ib ic w0 b) (hn : ∀ w, w0 ≤ w → b ≤ w → w < d → ¬ IsE n C P w) : IAR n C L P f inn ib ic w0 d := by
  intro w y h0 hw hE hy
  by_cases z : w < b
  · exact h w y h0 z hE hy
  · exact absurd hE (hn w h0 (by omega) hw)
theorem IAR_add {n : Nat} {C L : Nat → Nat} {P : Nat → Nat → Nat} {f : Nat → Int64} {inn ib ic : Nat → Int32} {w0 b m : Nat} {a1 a2 a3 : Int32} (h : IAR n C L P f inn ib ic w0 b) (hE : IsE n C P b) (hm : (m : Int) = EB n C P b - EB n C P w0) (h1 : a1.toInt = NB n C P (b + 1) - 1) (h2 : a2 = OCV f L b) (h3 : a3 = -1 ↔ C (b % 64) = b / 64) : IAR n C L P f (upd inn m a1) (upd ib m a2) (upd ic m a3) w0 (b + 1) := by
  intro w y h0 hw hE2 hy
  by_cases z : w = b
  · subst z
    have ey : y = m := by omega
    rw [ey, up_s, up_s, up_s]
    exact ⟨h1, h2, h3⟩
  · have lt : EB n C P w < EB n C P b := CTP_lt (by omega) hE2
    have ny : y ≠ m := by omega
    rw [up_n ny, up_n ny, up_n ny]
    exact h w y h0 (by omega) hE2 hy
theorem PLR_skip {n : Nat} {C : Nat → Nat} {po lp : Nat → Int32} {b d : Nat} (h : PLR n C po lp b) (hn : ∀ w, b ≤ w → w < d → ¬ IsL n C w) : PLR n C po lp d := by
  intro w z hw hL hz
  by_cases y : w < b
  · exact h w z y hL hz
  · exact absurd hL (hn w (by omega) hw)
theorem PLR_add {n : Nat} {C : Nat → Nat} {po lp : Nat → Int32} {b m i : Nat} {x r : Int32} (h : PLR n C po lp b) (hL : IsL n C b) (hm : (m : Int) = LB n C b) (hi : b % 64 = i) (hx : x.toInt = (m : Int)) (hr : r.toInt = (i : Int)) : PLR n C (upd po i x) (upd lp m r) (b + 1) := by
  intro w z hw hL2 hz
  by_cases y : w = b
  · rw [y] at hz ⊢
    have ez : z = m := by omega
    rw [ez, hi, up_s, up_s]
    exact ⟨by omega, hr⟩
  · have lt : LB n C w < LB n C b := CTP_lt (by omega) hL2
    have ne : w % 64 ≠ i := by
      intro q
      have a := hL.2
      have c := hL2.2
      rw [hi] at a
      rw [q] at c
      omega
    rw [up_n ne, up_n (show z ≠ m by omega)]
    exact h w z (by omega) hL2 hz
/-! rows of bits: what is laid of them -/
def IsO (ro n : Nat) (C L : Nat → Nat) (P : Nat → Nat → Nat) (u w : Nat) : Prop := (ro = 0 ∧ w < 64 * u ∧ IsB n C L P w) ∨ (ro = 1 ∧ w < 64 * u ∧ IsK n C P w) ∨ (ro = 2 ∧ w < 64 * u ∧ IsD n C L P w) ∨ (ro = 3 ∧ 64 * u ≤ w ∧ IsD n C L P w) ∨ (ro = 4 ∧ 64 * u ≤ w ∧ IsK n C P w) ∨ (ro = 5 ∧ 64 * u ≤ w ∧ IsN n C P w)
noncomputable def VO (ro n : Nat) (C : Nat → Nat) (P : Nat → Nat → Nat) (f : Nat → Int64) (u w : Nat) : Int := if ro ≤ 1 then 256 * (NB n C P (w + 1) - 1) + (OCT (f (w % 64)) (nI (w / 64))).toInt else if ro = 2 then NB n C P (w + 1) - 1 else EB n C P w - EB n C P (64 * u)
noncomputable def RL (ro n : Nat) (C : Nat → Nat) (P : Nat → Nat → Nat) (u : Nat) : Int := if ro ≤ 1 then 256 * NB n C P (64 * u) else if ro = 2 then NB n C P (64 * u) else EB n C P 512 - EB n C P (64 * u)
noncomputable def OB (ro n : Nat) (C L : Nat → Nat) (P : Nat → Nat → Nat) (u w : Nat) : Int := CTP (IsO ro n C L P u) w
def OAR (ro n : Nat) (C L : Nat → Nat) (P : Nat → Nat → Nat) (f : Nat → Int64) (u : Nat) (om rl : Int32) (on : Nat → Int32) : Prop := om.toInt = OB ro n C L P u 512 ∧ rl.toInt = RL ro n C P u ∧ ∀ w : Nat, w < 512 → IsO ro n C L P u w → (on (OB ro n C L P u w).toNat).toInt = VO ro n C P f u w
theorem IsO_cg {n : Nat} {C C2 L L2 : Nat → Nat} {P P2 : Nat → Nat → Nat} (eC : ∀ i, i < n → C2 i = C i) (eL : ∀ i, i < n → L2 i = L i) (eE : ∀ w, IsE n C2 P2 w ↔ IsE n C P w) (eN : ∀ w, IsN n C2 P2 w ↔ IsN n C P w) (ro u w : Nat) : IsO ro n C2 L2 P2 u w ↔ IsO ro n C L P u w := by
  unfold IsO IsB IsK IsD
  by_cases hi : w % 64 < n
  · rw [eE, eN, eC _ hi, eL _ hi]
  · have a : ¬ IsE n C P w := fun z => hi z.1
    have b : ¬ IsN n C P w := fun z => hi z.1
    have a2 : ¬ IsE n C2 P2 w := fun z => hi z.1
    have b2 : ¬ IsN n C2 P2 w := fun z => hi z.1
    constructor
    · rintro (h | h | h | h | h | h)
      · exact absurd h.2.2.1 a2
      · exact absurd h.2.2.1 a2
      · exact absurd h.2.2.1 a2
      · exact absurd h.2.2.1 a2
      · exact absurd h.2.2.1 a2
      · exact absurd h.2.2 b2
    · rintro (h | h | h | h | h | h)
      · exact absurd h.2.2.1 a
      · exact absurd h.2.2.1 a
      · exact absurd h.2.2.1 a
      · exact absurd h.2.2.1 a
      · exact absurd h.2.2.1 a
      · exact absurd h.2.2 b
theorem IsO_in {ro n : Nat} {C L : Nat → Nat} {P : Nat → Nat → Nat} {u w : Nat} (h : IsO ro n C L P u w) : w % 64 < n := by
  rcases h with h | h | h | h | h | h
  · exact h.2.2.1.1
  · exact h.2.2.1.1
  · exact h.2.2.1.1
  · exact h.2.2.1.1
  · exact h.2.2.1.1
  · exact h.2.2.1
theorem VO_cg {n : Nat} {C C2 : Nat → Nat} {P P2 : Nat → Nat → Nat} {f f2 : Nat → Int64} (eNB : ∀ w, NB n C2 P2 w = NB n C P w) (eEB : ∀ w, EB n C2 P2 w = EB n C P w) (ef : ∀ i, i < n → f2 i = f i) {ro u w : Nat} (hi : w % 64 < n) : VO ro n C2 P2 f2 u w = VO ro n C P f u w := by
  unfold VO
  rw [eNB, eEB, eEB, ef _ hi]
theorem RL_cg {n : Nat} {C C2 : Nat → Nat} {P P2 : Nat → Nat → Nat} (eNB : ∀ w, NB n C2 P2 w = NB n C P w) (eEB : ∀ w, EB n C2 P2 w = EB n C P w) {ro u : Nat} : RL ro n C2 P2 u = RL ro n C P u := by
  unfold RL
  rw [eNB, eEB, eEB]
theorem OB_cg {n : Nat} {C C2 L L2 : Nat → Nat} {P P2 : Nat → Nat → Nat} (eC : ∀ i, i < n → C2 i = C i) (eL : ∀ i, i < n → L2 i = L i) (eE : ∀ w, IsE n C2 P2 w ↔ IsE n C P w) (eN : ∀ w, IsN n C2 P2 w ↔ IsN n C P w) (ro u w : Nat) : OB ro n C2 L2 P2 u w = OB ro n C L P u w := CTP_congr w (fun i _ => IsO_cg eC eL eE eN ro u i)
theorem OAR_cg {ro n : Nat} {C C2 L L2 : Nat → Nat} {P P2 : Nat → Nat → Nat} {f f2 : Nat → Int64} (eC : ∀ i, i < n → C2 i = C i) (eL : ∀ i, i < n → L2 i = L i) (eE : ∀ w, IsE n C2 P2 w ↔ IsE n C P w) (eN : ∀ w, IsN n C2 P2 w ↔ IsN n C P w) (eNB : ∀ w, NB n C2 P2 w = NB n C P w) (eEB : ∀ w, EB n C2 P2 w = EB n C P w) (ef : ∀ i, i < n → f2 i = f i) {u : Nat} {om rl : Int32} {on : Nat → Int32} (h : OAR ro n C L P f u om rl on) : OAR ro n C2 L2 P2 f2 u om rl on := by
  refine ⟨by rw [OB_cg eC eL eE eN]; exact h.1, by rw [RL_cg eNB eEB]; exact h.2.1, fun w w1 w2 => ?_⟩
  rw [OB_cg eC eL eE eN, VO_cg eNB eEB ef (IsO_in w2)]
  exact h.2.2 w w1 ((IsO_cg eC eL eE eN ro u w).mp w2)
def ODN (S : bT9) : Prop := ∀ ro u : Nat, (b9g_laidFor S).toInt = (ro : Int) → ro ≤ 5 → (b9g_upper S).toInt = (u : Int) → OAR ro (n9 S) (C9 S) (L9 S) (P9 S) (fun j => b9g_keys S (64 + j)) u (b9g_oneMany S) (b9g_rowLong S) (b9g_ones S)
def T9P (S : bT9) : Prop := SR9 S ∧ CLN (fun j => b9g_keys S (64 + j)) (fun j => b9g_lengths S (64 + j)) (b9g_now S 9).toInt ∧ ((b9g_now S 9).toInt = 0 ∨ 0 ≤ (b9g_now S 13 - 1).toInt)
def TD9 (S : bT9) : Prop := N9 S ∧ ∃ u lv : Nat, (b9g_levelMany S).toInt = (lv : Int) ∧ lv ≤ 8 ∧ LEVS (n9 S) (C9 S) (P9 S) (lv : Int) 8 ∧ (b9g_upper S).toInt = (u : Int) ∧ u ≤ lv ∧ UP9 (n9 S) (C9 S) (P9 S) (b9g_now S 13 - 1) (b9g_now S 14) lv u ∧ (b9g_upperNodes S).toInt = NB (n9 S) (C9 S) (P9 S) (64 * u) ∧ (b9g_itemMany S).toInt = EB (n9 S) (C9 S) (P9 S) 512 - EB (n9 S) (C9 S) (P9 S) (64 * u) ∧ IAR (n9 S) (C9 S) (L9 S) (P9 S) (fun j => b9g_keys S (64 + j)) (b9g_itemNode S) (b9g_itemByte S) (b9g_itemChild S) (64 * u) 512 ∧ PLR (n9 S) (C9 S) (b9g_placeOf S) (b9g_leafOfPlace S) 512
def TDW (S : bT9) : Prop := (b9g_areNodesLaid S).toInt ≠ 0 → TD9 S ∧ ODN S
def SM9 (V S : bT9) : Prop := b9g_keys V = b9g_keys S ∧ b9g_lengths V = b9g_lengths S ∧ b9g_now V = b9g_now S
theorem SM9_n {V S : bT9} (h : SM9 V S) : n9 V = n9 S ∧ C9 V = C9 S ∧ L9 V = L9 S ∧ P9 V = P9 S := by
  obtain ⟨a, b, c⟩ := h
  unfold n9 C9 L9 P9
  rw [a, b, c]
  exact ⟨rfl, rfl, rfl, rfl⟩
theorem R9_same {V S : bT9} (h : R9 S) (e : SM9 V S) (e1 : b9g_beginning V = b9g_beginning S) (e2 : b9g_common V = b9g_common S) : R9 V := by
  obtain ⟨q1, q2, q3, q4⟩ := SM9_n e
  unfold R9
  rw [q1, q2, q3, q4, e1, e2, e.2.2]
  exact h
theorem N9_same {V S : bT9} (h : N9 S) (e : SM9 V S) (e1 : b9g_nodeLevel V = b9g_nodeLevel S) (e2 : b9g_nodeLeaf V = b9g_nodeLeaf S) (e3 : b9g_nodeLeaves V = b9g_nodeLeaves S) (e4 : b9g_nodeMany V = b9g_nodeMany S) : N9 V := by
  obtain ⟨q1, q2, q3, q4⟩ := SM9_n e
  unfold N9
  rw [q1, q2, q4, e1, e2, e3, e4]
  exact h
theorem AT9_same {V S : bT9} {x l s f : Nat} (h : AT9 S x l s f) (e : SM9 V S) (e1 : b9g_nodeLevel V = b9g_nodeLevel S) (e2 : b9g_nodeLeaf V = b9g_nodeLeaf S) (e3 : b9g_nodeLeaves V = b9g_nodeLeaves S) : AT9 V x l s f := by
  obtain ⟨q1, q2, q3, q4⟩ := SM9_n e
  unfold AT9
  rw [q1, q2, q4, e1, e2, e3]
  exact h
theorem TD9_same {V S : bT9} (h : TD9 S) (e : SM9 V S) (e1 : b9g_nodeLevel V = b9g_nodeLevel S) (e2 : b9g_nodeLeaf V = b9g_nodeLeaf S) (e3 : b9g_nodeLeaves V = b9g_nodeLeaves S) (e4 : b9g_nodeMany V = b9g_nodeMany S) (e5 : b9g_levelMany V = b9g_levelMany S) (e6 : b9g_upper V = b9g_upper S) (e7 : b9g_upperNodes V = b9g_upperNodes S) (e8 : b9g_itemNode V = b9g_itemNode S) (e9 : b9g_itemByte V = b9g_itemByte S) (e10 : b9g_itemChild V = b9g_itemChild S) (e11 : b9g_itemMany V = b9g_itemMany S) (e12 : b9g_placeOf V = b9g_placeOf S) (e13 : b9g_leafOfPlace V = b9g_leafOfPlace S) : TD9 V := by
  obtain ⟨q1, q2, q3, q4⟩ := SM9_n e
  refine ⟨N9_same h.1 e e1 e2 e3 e4, ?_⟩
  rw [q1, q2, q3, q4, e.1, e.2.2, e5, e6, e7, e8, e9, e10, e11, e12, e13]
  exact h.2
theorem LEVS_last {S : bT9} (h : R9 S) (hN : N9 S) {lv : Int} (h0 : (b9g_nodeMany S).toInt = 0 → lv = 0) (h1 : ∀ x : Nat, (x : Int) + 1 = (b9g_nodeMany S).toInt → lv = (b9g_nodeLevel S x).toInt + 1) : LEVS (n9 S) (C9 S) (P9 S) lv 8 := by
  have hm := hN.1
  have g64 := h.1.1
  have nn := NB_nn (n := n9 S) (C := C9 S) (P := P9 S) 512
  have e512 : NB (n9 S) (C9 S) (P9 S) (64 * 8) = NB (n9 S) (C9 S) (P9 S) 512 := rfl
  by_cases z : (b9g_nodeMany S).toInt = 0
  · exact Or.inl ⟨h0 z, by omega⟩
  · obtain ⟨x, ex⟩ : ∃ x : Nat, (x : Int) + 1 = (b9g_nodeMany S).toInt := ⟨((b9g_nodeMany S).toInt - 1).toNat, by omega⟩
    obtain ⟨l, s, e, l7, s64, hs, hg, hx, f1, f2, f3⟩ := NOD_at (x := x) hN.2 (by omega)
    have a := NB_mono (n := n9 S) (C := C9 S) (P := P9 S) (show 64 * l ≤ 64 * l + s by omega)
    have b : NB (n9 S) (C9 S) (P9 S) (64 * l + s) < NB (n9 S) (C9 S) (P9 S) (64 * (l + 1)) := CTP_lt (by omega) ((IsN_at s64).mpr hs)
    have c := NB_mono (n := n9 S) (C := C9 S) (P := P9 S) (show 64 * (l + 1) ≤ 512 by omega)
    refine Or.inr ⟨l, by rw [h1 x ex, f1], by omega, by omega, by omega⟩
/-! nodes laid: seeds, the last level -/
def NSW (S : bT9) : Prop := NSD (b9g_beginning S) (b9g_nodeLevel S) (b9g_nodeLeaf S) (b9g_nodeLeaves S) (b9g_nodeMany S).toInt ∧ ((b9g_nodeMany S).toInt = 0 → (b9g_levelMany S).toInt = 0) ∧ (∀ x : Nat, (x : Int) + 1 = (b9g_nodeMany S).toInt → (b9g_levelMany S).toInt = (b9g_nodeLevel S x).toInt + 1) ∧ (b9g_areNodesLaid S = 1 ∧ b9g_laidFor S = -1) ∧ (b9g_isLaid S).toInt ≠ 0
theorem NSD_push {beg lv lf ls lv2 lf2 ls2 : Nat → Int32} {m m2 : Int32} (h : NSD beg lv lf ls m.toInt) (m0 : 0 ≤ m.toInt) (em : m2.toInt = m.toInt + 1) (hl : ∀ x : Nat, (x : Int) < m.toInt → lv2 x = lv x ∧ lf2 x = lf x ∧ ls2 x = ls x) (hs : ∃ i : Nat, (lf2 m.toNatClampNeg).toInt ≤ (i : Int) ∧ (i : Int) < (lf2 m.toNatClampNeg).toInt + (ls2 m.toNatClampNeg).toInt ∧ (lv2 m.toNatClampNeg).toInt < (beg i).toInt) : NSD beg lv2 lf2 ls2 m2.toInt := by
  have ec := pt_clamp m0
  intro x hx
  by_cases e : x = m.toNatClampNeg
  · subst e
    exact hs
  · have hx2 : (x : Int) < m.toInt := by omega
    obtain ⟨q1, q2, q3⟩ := hl x hx2
    rw [q1, q2, q3]
    exact h x hx2
theorem R9_LD {S : bT9} (hs : SR9 S) (hc : CLN (fun j => b9g_keys S (64 + j)) (fun j => b9g_lengths S (64 + j)) (b9g_now S 9).toInt) (hK : K9 S) (hd : LD (b9g_isLaid S) (b9g_common S) (b9g_beginning S) (b9g_keys S) (b9g_lengths S) (b9g_now S 9)) (hl : (b9g_isLaid S).toInt ≠ 0) : R9 S := by
  have jn := (K9g_now hK).2.2.2.1
  refine ⟨GRD_of hs hc jn.2, jn.1, fun i hi => ?_⟩
  unfold n9 at hi
  have d := hd hl i (by omega)
  exact ⟨d.2, d.1⟩
theorem T9P_same {V S : bT9} (h : T9P S) (e : SM9 V S) : T9P V := by
  unfold T9P SR9
  rw [e.1, e.2.1, e.2.2]
  exact h
theorem TDW_same {V S : bT9} (h : TDW S) (e : SM9 V S) (e0 : b9g_areNodesLaid V = b9g_areNodesLaid S) (e1 : b9g_nodeLevel V = b9g_nodeLevel S) (e2 : b9g_nodeLeaf V = b9g_nodeLeaf S) (e3 : b9g_nodeLeaves V = b9g_nodeLeaves S) (e4 : b9g_nodeMany V = b9g_nodeMany S) (e5 : b9g_levelMany V = b9g_levelMany S) (e6 : b9g_upper V = b9g_upper S) (e7 : b9g_upperNodes V = b9g_upperNodes S) (e8 : b9g_itemNode V = b9g_itemNode S) (e9 : b9g_itemByte V = b9g_itemByte S) (e10 : b9g_itemChild V = b9g_itemChild S) (e11 : b9g_itemMany V = b9g_itemMany S) (e12 : b9g_placeOf V = b9g_placeOf S) (e13 : b9g_leafOfPlace V = b9g_leafOfPlace S) (e14 : b9g_laidFor V = b9g_laidFor S) (e15 : b9g_oneMany V = b9g_oneMany S) (e16 : b9g_rowLong V = b9g_rowLong S) (e17 : b9g_ones V = b9g_ones S) : TDW V := by
  intro h0
  rw [e0] at h0
  refine ⟨TD9_same (h h0).1 e e1 e2 e3 e4 e5 e6 e7 e8 e9 e10 e11 e12 e13, ?_⟩
  obtain ⟨q1, q2, q3, q4⟩ := SM9_n e
  unfold ODN
  rw [q1, q2, q3, q4, e.1, e6, e14, e15, e16, e17]
  exact (h h0).2
/-- the rows are the same as far as the tree sees them -/
theorem TDW_rows {V S : bT9} (h : TDW S) (en : ∀ i : Nat, i = 9 ∨ i = 13 ∨ i = 14 → b9g_now V i = b9g_now S i) (eo : ∀ j : Nat, j < 64 → b9g_keys V (64 + j) = b9g_keys S (64 + j) ∧ b9g_lengths V (64 + j) = b9g_lengths S (64 + j)) (h9 : (b9g_now S 9).toInt ≤ 64) (e0 : b9g_areNodesLaid V = b9g_areNodesLaid S) (e1 : b9g_nodeLevel V = b9g_nodeLevel S) (e2 : b9g_nodeLeaf V = b9g_nodeLeaf S) (e3 : b9g_nodeLeaves V = b9g_nodeLeaves S) (e4 : b9g_nodeMany V = b9g_nodeMany S) (e5 : b9g_levelMany V = b9g_levelMany S) (e6 : b9g_upper V = b9g_upper S) (e7 : b9g_upperNodes V = b9g_upperNodes S) (e8 : b9g_itemNode V = b9g_itemNode S) (e9 : b9g_itemByte V = b9g_itemByte S) (e10 : b9g_itemChild V = b9g_itemChild S) (e11 : b9g_itemMany V = b9g_itemMany S) (e12 : b9g_placeOf V = b9g_placeOf S) (e13 : b9g_leafOfPlace V = b9g_leafOfPlace S) (e14 : b9g_laidFor V = b9g_laidFor S) (e15 : b9g_oneMany V = b9g_oneMany S) (e16 : b9g_rowLong V = b9g_rowLong S) (e17 : b9g_ones V = b9g_ones S) : TDW V := by
  have n9e : b9g_now V 9 = b9g_now S 9 := en 9 (Or.inl rfl)
  have n13 : b9g_now V 13 = b9g_now S 13 := en 13 (Or.inr (Or.inl rfl))
  have n14 : b9g_now V 14 = b9g_now S 14 := en 14 (Or.inr (Or.inr rfl))
  have eN : n9 V = n9 S := by unfold n9; rw [n9e]
  have hn64 : n9 S ≤ 64 := by unfold n9; omega
  have eC : ∀ i, i < n9 S → C9 V i = C9 S i := by
    intro i hi
    unfold C9
    rw [n9e]
    unfold n9 at hi
    exact COM_agr (fun j hj => eo j (by omega)) (by omega)
  have eL : ∀ i, i < n9 S → L9 V i = L9 S i := by
    intro i hi
    show (b9g_lengths V (64 + i)).toInt.toNat = (b9g_lengths S (64 + i)).toInt.toNat
    rw [(eo i (by omega)).2]
  have eP : ∀ l i, i < n9 S → P9 V l i = P9 S l i := by
    intro l i hi
    show PX (ub (b9g_keys V (64 + i))) l = PX (ub (b9g_keys S (64 + i))) l
    rw [(eo i (by omega)).1]
  have eNST : ∀ l i, NST (n9 S) (C9 V) (P9 V) l i ↔ NST (n9 S) (C9 S) (P9 S) l i := by
    intro l i
    unfold NST
    by_cases hi : i < n9 S
    · rw [eC i hi, eC (i - 1) (by omega), eP l i hi, eP l (i - 1) (by omega)]
    · exact ⟨fun t => absurd t.1 hi, fun t => absurd t.1 hi⟩
  have eN2 : ∀ w, IsN (n9 S) (C9 V) (P9 V) w ↔ IsN (n9 S) (C9 S) (P9 S) w := fun w => eNST _ _
  have eE2 : ∀ w, IsE (n9 S) (C9 V) (P9 V) w ↔ IsE (n9 S) (C9 S) (P9 S) w := by
    intro w
    unfold IsE EST
    rw [eNST]
    by_cases hi : w % 64 < n9 S
    · rw [eC _ hi]
    · exact ⟨fun t => absurd t.1 hi, fun t => absurd t.1 hi⟩
  have eL2 : ∀ w, IsL (n9 S) (C9 V) w ↔ IsL (n9 S) (C9 S) w := by
    intro w
    unfold IsL
    by_cases hi : w % 64 < n9 S
    · rw [eC _ hi]
    · exact ⟨fun t => absurd t.1 hi, fun t => absurd t.1 hi⟩
  have eNB : ∀ w, NB (n9 S) (C9 V) (P9 V) w = NB (n9 S) (C9 S) (P9 S) w := fun w => CTP_congr w (fun i _ => eN2 i)
  have eEB : ∀ w, EB (n9 S) (C9 V) (P9 V) w = EB (n9 S) (C9 S) (P9 S) w := fun w => CTP_congr w (fun i _ => eE2 i)
  have eLB : ∀ w, LB (n9 S) (C9 V) w = LB (n9 S) (C9 S) w := fun w => CTP_congr w (fun i _ => eL2 i)
  have eG : ∀ l s e m, m ≤ n9 S → GRQ (n9 S) (C9 S) (P9 S) l s e m → GRQ (n9 S) (C9 V) (P9 V) l s e m := by
    intro l s e m hm g
    have g1 := g.1
    have g2 := g.2.1
    refine ⟨g.1, g.2.1, fun k k1 k2 => ?_, fun t z => g.2.2.2 t ?_⟩
    · rw [eC k (by omega), eP l k (by omega), eP l s (by omega)]
      exact g.2.2.1 k k1 k2
    · rw [eC e (by omega), eP l e (by omega), eP l s (by omega)] at z
      exact z
  intro h0
  rw [e0] at h0
  obtain ⟨⟨⟨hm, hO⟩, u, lv, a1, a2, a3, a4, a5, a6, a7, a8, a9, a10⟩, hod⟩ := h h0
  have od : ODN V := by
    intro ro k b1 b2 b3
    rw [e14] at b1
    rw [e6] at b3
    rw [eN, e15, e16, e17]
    exact OAR_cg eC eL eE2 eN2 eNB eEB (fun i hi => (eo i (by omega)).1) (hod ro k b1 b2 b3)
  refine ⟨⟨⟨?_, ?_⟩, u, lv, by rw [e5]; exact a1, a2, ?_, by rw [e6]; exact a4, a5, ?_, ?_, ?_, ?_, ?_⟩, od⟩
  · rw [e4, eN, eNB]; exact hm
  · rw [eN, e1, e2, e3]
    intro w x hw hI hx
    rw [eNB] at hx
    obtain ⟨b1, b2, e, b3, b4, b5⟩ := hO w x hw ((eN2 w).mp hI) hx
    refine ⟨b1, b2, e, b3, eG _ _ _ _ ?_ b4, b5⟩
    by_cases z : w / 64 = 8
    · omega
    · rw [if_neg z]; exact Nat.le_refl _
  · rw [eN]
    unfold LEVS
    rcases a3 with ⟨b1, b2⟩ | ⟨q, b1, b2, b3, b4⟩
    · exact Or.inl ⟨b1, by rw [eNB]; exact b2⟩
    · exact Or.inr ⟨q, b1, b2, by rw [eNB, eNB]; exact b3, by rw [eNB, eNB]; exact b4⟩
  · rw [eN, n13, n14]
    have eU : ∀ k, COU (n9 S) (C9 V) (P9 V) (b9g_now S 14) k ↔ COU (n9 S) (C9 S) (P9 S) (b9g_now S 14) k := by
      intro k
      unfold COU BTN BTE
      rw [eNB, eEB, eEB]
    refine ⟨a6.1, fun z => ⟨fun y => ?_, (a6.2 z).2⟩⟩
    obtain ⟨b1, b2, b3⟩ := (a6.2 z).1 y
    exact ⟨b1, b2.imp id (fun t => (eU u).mpr t), fun i i1 i2 t => b3 i i1 i2 ((eU i).mp t)⟩
  · rw [e7, eN, eNB]; exact a7
  · rw [e11, eN, eEB, eEB]; exact a8
  · rw [eN, e8, e9, e10]
    intro w y w0 w1 w2 w3
    rw [eEB, eEB] at w3
    obtain ⟨b1, b2, b3⟩ := a9 w y w0 w1 ((eE2 w).mp w2) w3
    have hi := w2.1
    refine ⟨by rw [eNB]; exact b1, ?_, by rw [eC _ hi]; exact b3⟩
    rw [b2]
    unfold OCV
    rw [eL _ hi]
    show (if L9 S (w % 64) = w / 64 then -1 else OCT (b9g_keys S (64 + w % 64)) (nI (w / 64))) = (if L9 S (w % 64) = w / 64 then -1 else OCT (b9g_keys V (64 + w % 64)) (nI (w / 64)))
    rw [(eo (w % 64) (by omega)).1]
  · rw [eN, e12, e13]
    intro w z w1 w2 w3
    rw [eLB] at w3 ⊢
    exact a10 w z w1 ((eL2 w).mp w2) w3
/-! the tree stays -/
def TF9 (V S : bT9) : Prop := SM9 V S ∧ b9g_areNodesLaid V = b9g_areNodesLaid S ∧ b9g_nodeLevel V = b9g_nodeLevel S ∧ b9g_nodeLeaf V = b9g_nodeLeaf S ∧ b9g_nodeLeaves V = b9g_nodeLeaves S ∧ b9g_nodeMany V = b9g_nodeMany S ∧ b9g_levelMany V = b9g_levelMany S ∧ b9g_upper V = b9g_upper S ∧ b9g_upperNodes V = b9g_upperNodes S ∧ b9g_itemNode V = b9g_itemNode S ∧ b9g_itemByte V = b9g_itemByte S ∧ b9g_itemChild V = b9g_itemChild S ∧ b9g_itemMany V = b9g_itemMany S ∧ b9g_placeOf V = b9g_placeOf S ∧ b9g_leafOfPlace V = b9g_leafOfPlace S ∧ b9g_laidFor V = b9g_laidFor S ∧ b9g_oneMany V = b9g_oneMany S ∧ b9g_rowLong V = b9g_rowLong S ∧ b9g_ones V = b9g_ones S
theorem TDW_tf {V S : bT9} (h : TDW S) (t : TF9 V S) : TDW V := by
  obtain ⟨e, e0, e1, e2, e3, e4, e5, e6, e7, e8, e9, e10, e11, e12, e13, e14, e15, e16, e17⟩ := t
  exact TDW_same h e e0 e1 e2 e3 e4 e5 e6 e7 e8 e9 e10 e11 e12 e13 e14 e15 e16 e17
def TWW (S u : bT9) : Prop := T9P S → TDW S → TDW u ∧ (b9g_areNodesLaid u).toInt ≠ 0
theorem TWW_told {S S1 u : bT9} (e : S1 = b9s_told S 0) (h : TWW S1 u) : TWW S u := by
  intro hP hW
  refine h ?_ ?_
  · rw [e]; exact hP
  · rw [e]; exact hW
theorem TWW_tf {S V U : bT9} (h : TWW S V) (t : TF9 U V) : TWW S U := fun hP hW => ⟨TDW_tf (h hP hW).1 t, by rw [t.2.1]; exact (h hP hW).2⟩
theorem TWW_pre {S V U : bT9} (t : TF9 V S) (h : TWW V U) : TWW S U := fun hP hW => h (T9P_same hP t.1) (TDW_tf hW t)
theorem TWW_lays {S u : bT9} (h : T9P S → TDW S → TDW u ∧ (b9g_areNodesLaid u).toInt ≠ 0 ∧ (b9g_isLaid u).toInt ≠ 0) : TWW S u := fun hP hW => ⟨(h hP hW).1, (h hP hW).2.1⟩
theorem at2 {f : Nat → Int32} : atf 6 f 2 = f 2 := by
  unfold atf
  rw [if_neg (by decide), if_neg (by decide)]
  rfl
theorem at3 {f : Nat → Int32} : atf 6 f 3 = f 3 := by
  unfold atf
  rw [if_neg (by decide), if_neg (by decide)]
  rfl
/-! class and reference have one grid -/
theorem GAG {n : Nat} {C K : Nat → Nat} {P R : Nat → Nat → Nat} (eC : ∀ i, i < n → K i = C i) (eP : ∀ l i, i < n → R l i = P l i) : (∀ w, IsN n K R w ↔ IsN n C P w) ∧ (∀ w, IsE n K R w ↔ IsE n C P w) ∧ (∀ w, IsL n K w ↔ IsL n C w) ∧ (∀ w, NB n K R w = NB n C P w) ∧ (∀ w, EB n K R w = EB n C P w) ∧ ∀ w, LB n K w = LB n C w := by
  have eNST : ∀ l i, NST n K R l i ↔ NST n C P l i := by
    intro l i
    unfold NST
    by_cases hi : i < n
    · rw [eC i hi, eC (i - 1) (by omega), eP l i hi, eP l (i - 1) (by omega)]
    · exact ⟨fun t => absurd t.1 hi, fun t => absurd t.1 hi⟩
  have eN2 : ∀ w, IsN n K R w ↔ IsN n C P w := fun w => eNST _ _
  have eE2 : ∀ w, IsE n K R w ↔ IsE n C P w := by
    intro w
    unfold IsE EST
    rw [eNST]
    by_cases hi : w % 64 < n
    · rw [eC _ hi]
    · exact ⟨fun t => absurd t.1 hi, fun t => absurd t.1 hi⟩
  have eL2 : ∀ w, IsL n K w ↔ IsL n C w := by
    intro w
    unfold IsL
    by_cases hi : w % 64 < n
    · rw [eC _ hi]
    · exact ⟨fun t => absurd t.1 hi, fun t => absurd t.1 hi⟩
  exact ⟨eN2, eE2, eL2, fun w => CTP_congr w (fun i _ => eN2 i), fun w => CTP_congr w (fun i _ => eE2 i), fun w => CTP_congr w (fun i _ => eL2 i)⟩
/-- one grid: the leaves of the object and the rows of the reference -/
def AGX (X : bT1) (S : bT9) : Prop := tn X = n9 S ∧ (∀ i, i < n9 S → tC X i = C9 S i) ∧ (∀ i, i < n9 S → tL X i = L9 S i) ∧ (∀ l i, i < n9 S → tP X l i = P9 S l i) ∧ ∀ i, i < n9 S → b0g_bytes (b1g_owners X) i = b9g_keys S (64 + i)
theorem AGX_of {X : bT1} {S : bT9} (h9 : 0 ≤ (b9g_now S 9).toInt) (hx : LFP X (b9g_now S) (fun j => b9g_keys S (64 + j)) (fun j => b9g_lengths S (64 + j))) : AGX X S := by
  obtain ⟨_, _, _, hc, hr, _⟩ := hx
  have en : tn X = n9 S := by
    unfold tn n9
    rw [hc]
  have lt : ∀ i, i < n9 S → (i : Int) < (b9g_now S 9).toInt := by
    intro i hi
    unfold n9 at hi
    omega
  refine ⟨en, fun i hi => ?_, fun i hi => ?_, fun l i hi => ?_, fun i hi => (hr i (lt i hi)).1.symm⟩
  · unfold tC C9
    rw [hc]
    exact (COM_agr (fun j hj => hr j hj) (lt i hi)).symm
  · show (b0g_lengths (b1g_owners X) i).toInt.toNat = (b9g_lengths S (64 + i)).toInt.toNat
    rw [← (hr i (lt i hi)).2]
  · show PX (ub (b0g_bytes (b1g_owners X) i)) l = PX (ub (b9g_keys S (64 + i))) l
    rw [← (hr i (lt i hi)).1]
theorem AGX_g {X : bT1} {S : bT9} (h : AGX X S) : (∀ w, IsN (tn X) (tC X) (tP X) w ↔ IsN (n9 S) (C9 S) (P9 S) w) ∧ (∀ w, IsE (tn X) (tC X) (tP X) w ↔ IsE (n9 S) (C9 S) (P9 S) w) ∧ (∀ w, IsL (tn X) (tC X) w ↔ IsL (n9 S) (C9 S) w) ∧ (∀ w, NB (tn X) (tC X) (tP X) w = NB (n9 S) (C9 S) (P9 S) w) ∧ (∀ w, EB (tn X) (tC X) (tP X) w = EB (n9 S) (C9 S) (P9 S) w) ∧ ∀ w, LB (tn X) (tC X) w = LB (n9 S) (C9 S) w := by
  rw [h.1]
  exact GAG h.2.1 h.2.2.2.1
/-! the leaf at a place -/
def LPL (n : Nat) (C : Nat → Nat) (p r : Int) : Prop := ∃ w : Nat, w < 512 ∧ IsL n C w ∧ LB n C w = p ∧ r = ((w % 64 : Nat) : Int)
theorem LPL_one {n : Nat} {C : Nat → Nat} {p r q : Int} (h : LPL n C p r) (g : LPL n C p q) : r = q := by
  obtain ⟨w, _, a, b, c⟩ := h
  obtain ⟨v, _, d, e, f⟩ := g
  have wv : w = v := CTP_inj (P := IsL n C) a d (by show LB n C w = LB n C v; rw [b, e])
  rw [c, f, wv]
theorem LPL_agx {X : bT1} {S : bT9} (h : AGX X S) {p r : Int} (g : LPL (tn X) (tC X) p r) : LPL (n9 S) (C9 S) p r := by
  obtain ⟨_, _, e3, _, _, e6⟩ := AGX_g h
  obtain ⟨w, a, b, c, d⟩ := g
  exact ⟨w, a, (e3 w).mp b, by rw [← e6]; exact c, d⟩
theorem C_leafAt {X : bT1} {T : bT6} {S : bT9} {de ra a r q : Int32} (h9 : 0 ≤ (b9g_now S 9).toInt) (hx : LFP X (b9g_now S) (fun j => b9g_keys S (64 + j)) (fun j => b9g_lengths S (64 + j))) (ht : LVO X → TRX T X de ra) (hP : T9P S) (hW : TDW S) (h : LVO X → TRX T X de ra → ((0 ≤ a.toInt ∧ a.toInt < (b0g_count (b1g_owners X)).toInt) → LPL (tn X) (tC X) a.toInt r.toInt) ∧ (¬ (0 ≤ a.toInt ∧ a.toInt < (b0g_count (b1g_owners X)).toInt) → r.toInt = -1)) (h2 : T9P S → TDW S → ((0 ≤ a.toInt ∧ a.toInt < (b9g_now S 9).toInt) → LPL (n9 S) (C9 S) a.toInt q.toInt) ∧ (¬ (0 ≤ a.toInt ∧ a.toInt < (b9g_now S 9).toInt) → q.toInt = -1)) : r.toInt = q.toInt := by
  have ag := AGX_of h9 hx
  have o := hx.1
  have hc := hx.2.2.2.1
  have A := h o (ht o)
  have B := h2 hP hW
  rw [hc] at A
  by_cases z : 0 ≤ a.toInt ∧ a.toInt < (b9g_now S 9).toInt
  · exact LPL_one (LPL_agx ag (A.1 z)) (B.1 z)
  · rw [A.2 z, B.2 z]
/-! what is told of the dense levels stays in its bounds -/
def DB2 (P : bT3) : Prop := 0 ≤ (b3g_values P 2).toInt ∧ (b3g_values P 2).toInt ≤ 9
def DBM (M : bT2) : Prop := DB2 (b2g_told M) ∧ DB2 (b2g_built M)
theorem DB2_eq {P R : bT3} (h : DB2 R) (e : PEQ P R) : DB2 P := by
  unfold DB2
  rw [e.2.1 2 (by omega)]
  exact h
theorem DBM_eq {M R : bT2} (h : DBM R) (e : MEQ M R) : DBM M := ⟨DB2_eq h.1 e.1, DB2_eq h.2 e.2.1⟩
theorem T9P_of {X : bT1} {P : bT3} {S : bT9} (hx : LFP X (b9g_now S) (fun j => b9g_keys S (64 + j)) (fun j => b9g_lengths S (64 + j))) (hb : BRL P (b9g_now S) (fun j => b9g_keys S (64 + j)) (fun j => b9g_lengths S (64 + j))) (hd : DB2 P) : T9P S := by
  refine ⟨hx.2.1, hx.2.2.1, ?_⟩
  rcases hb.2.2.2.2.2 with z | ⟨z, _⟩
  · exact Or.inl z
  · refine Or.inr ?_
    rw [← z]
    have a := hd.1
    have b := hd.2
    have e : (b3g_values P 2 + 1).toInt = (b3g_values P 2).toInt + 1 := by rw [pt_add (by rw [pl_1]; omega) (by rw [pl_1]; omega), pl_1]
    rw [pt_sub (by rw [e, pl_1]; omega) (by rw [e, pl_1]; omega), e, pl_1]
    omega
def TKP (S u : bT9) : Prop := T9P S → TDW S → TDW u
theorem TKP_w {S u : bT9} (h : TWW S u) : TKP S u := fun hP hW => (h hP hW).1
theorem TKP_told {S S1 u : bT9} (e : S1 = b9s_told S 0) (h : TKP S1 u) : TKP S u := by
  intro hP hW
  refine h ?_ ?_
  · rw [e]; exact hP
  · rw [e]; exact hW
theorem TKP_tf {S V : bT9} (t : TF9 V S) : TKP S V := fun _ hW => TDW_tf hW t
theorem TF_sign {S S1 : bT9} {v : Int32} (e : S1 = b9s_signMany S v) : TF9 S1 S := by
  rw [e]
  exact ⟨⟨rfl, rfl, rfl⟩, rfl, rfl, rfl, rfl, rfl, rfl, rfl, rfl, rfl, rfl, rfl, rfl, rfl, rfl, rfl, rfl, rfl, rfl⟩
theorem DB_set {P R : bT3} {a1 a2 r : Int32} (h : DB2 R) (c : (r.toInt = 1 ∧ ((a1.toInt = 0 ∧ 0 ≤ a2.toInt ∧ a2.toInt ≤ 8) ∨ (a1.toInt = 1 ∧ 0 ≤ a2.toInt ∧ a2.toInt ≤ 8) ∨ (a1.toInt = 2 ∧ 0 ≤ a2.toInt ∧ a2.toInt ≤ 9) ∨ (a1.toInt = 3 ∧ 1 ≤ a2.toInt ∧ a2.toInt ≤ 64) ∨ (a1.toInt = 4 ∧ 1 ≤ a2.toInt ∧ a2.toInt ≤ 256) ∨ a1.toInt = 5)) ∨ (r.toInt = 0 ∧ ¬ ((a1.toInt = 0 ∧ 0 ≤ a2.toInt ∧ a2.toInt ≤ 8) ∨ (a1.toInt = 1 ∧ 0 ≤ a2.toInt ∧ a2.toInt ≤ 8) ∨ (a1.toInt = 2 ∧ 0 ≤ a2.toInt ∧ a2.toInt ≤ 9) ∨ (a1.toInt = 3 ∧ 1 ≤ a2.toInt ∧ a2.toInt ≤ 64) ∨ (a1.toInt = 4 ∧ 1 ≤ a2.toInt ∧ a2.toInt ≤ 256) ∨ a1.toInt = 5))) (c1 : r.toInt = 1 → b3g_values P = upd (b3g_values R) a1.toNatClampNeg a2) (c2 : r.toInt = 0 → b3g_values P = b3g_values R) : DB2 P := by
  unfold DB2
  rcases c with ⟨e, p⟩ | ⟨e, _⟩
  · rw [c1 e]
    by_cases z : a1.toInt = 2
    · have ez : a1.toNatClampNeg = 2 := by
        show a1.toInt.toNat = 2
        omega
      rw [ez, up_s]
      omega
    · have ez : 2 ≠ a1.toNatClampNeg := by
        show 2 ≠ a1.toInt.toNat
        omega
      rw [up_n ez]
      exact h
  · rw [c2 e]
    exact h
theorem DB_image {X U : bT8} {a : Int32} (h : DBM (b8g_now X) ∧ DBM (b8g_kept X)) (c1 : a.toInt ≠ 0 → MEQ (b8g_kept U) (b8g_now X) ∧ b8g_now U = b8g_now X) (c2 : a.toInt = 0 → (b8g_isKept X).toInt = 0 → b8g_now U = b8g_now X ∧ b8g_kept U = b8g_kept X) (c3 : a.toInt = 0 → (b8g_isKept X).toInt ≠ 0 → MEQ (b8g_now U) (b8g_kept X) ∧ b8g_kept U = b8g_kept X) : DBM (b8g_now U) ∧ DBM (b8g_kept U) := by
  by_cases z : a.toInt = 0
  · by_cases y : (b8g_isKept X).toInt = 0
    · rw [(c2 z y).1, (c2 z y).2]
      exact h
    · exact ⟨DBM_eq h.2 (c3 z y).1, by rw [(c3 z y).2]; exact h.2⟩
  · exact ⟨by rw [(c1 z).2]; exact h.1, DBM_eq h.1 (c1 z).1⟩
theorem D_start : DBM (b8g_now bi8) ∧ DBM (b8g_kept bi8) := ⟨⟨⟨by decide, by decide⟩, by decide, by decide⟩, ⟨by decide, by decide⟩, by decide, by decide⟩
/-! edges of a node, of the object's tree -/
theorem TR6_nx {T : bT6} {n : Nat} {C L : Nat → Nat} {P : Nat → Nat → Nat} {f : Nat → Int64} (G : GRD n C L P) (t : TR6 T n C L P f) {x l s e : Nat} (hs : NST n C P l s) (l7 : l ≤ 7) (hg : GRQ n C P l s e n) (hx : (x : Int) = NB n C P (64 * l + s)) : (b6g_edgeStarts T x).toInt = EB n C P (64 * l + s) ∧ (b6g_edgeStarts T (x + 1)).toInt = EB n C P (64 * l + e) := by
  have g64 := G.1
  have sn := hs.1
  have gn := hg.2.1
  refine ⟨t.2.2.2.2.1 (64 * l + s) x (by omega) ((IsN_at (by omega)).mpr hs) hx, ?_⟩
  have ng := NB_grp g64 hs hg
  obtain ⟨p, r1, r2, r3, r4, r5, r6⟩ := NB_pos (n := n) (C := C) (P := P) (b := 64 * l + e) (x := x + 1) (by omega) (by omega)
  have eg := EB_gap g64 (l := l) (e := e) (by omega) (GRQ_cl hg) r1 r6
  rw [← eg]
  by_cases z : ((x + 1 : Nat) : Int) < NB n C P 512
  · exact t.2.2.2.2.1 p (x + 1) (r4 z).1 (r4 z).2 r3
  · have q := r5 z
    subst q
    exact t.2.2.2.2.2.1 (x + 1) r3
theorem OCV_end {f : Nat → Int64} {L : Nat → Nat} {w : Nat} (hw : w < 512) : OCV f L w = -1 ↔ L (w % 64) = w / 64 := by
  unfold OCV
  by_cases z : L (w % 64) = w / 64
  · rw [if_pos z]
    exact ⟨fun _ => z, fun _ => rfl⟩
  · rw [if_neg z]
    refine ⟨fun y => ?_, fun y => absurd y z⟩
    have e : (nI (w / 64)).toInt = ((w / 64 : Nat) : Int) := nI_toInt (by omega)
    have r := OCT_rng (f (w % 64)) (i := nI (w / 64)) (by omega) (by omega)
    rw [y, pl_m1] at r
    omega
theorem fx6_isEnd {T : bT6} {n : Nat} {C L : Nat → Nat} {P : Nat → Nat → Nat} {f : Nat → Int64} (t : TR6 T n C L P f) {a : Int32} {w y : Nat} {Q : Int32 → Prop} (hw : w < 512) (hE : IsE n C P w) (hy : (y : Int) = EB n C P w) (h5 : y < 296) (ha : a.toInt = (y : Int)) (hq : ∀ r : Int32, (r = 0 ↔ ¬ L (w % 64) = w / 64) → Q r) : wp_X6_isEnd T a Q := by
  obtain ⟨_, e2, _, _, _⟩ := t.2.2.2.2.2.2.2 w y hw hE hy
  have k := OCV_end (f := f) (L := L) hw
  unfold wp_X6_isEnd
  refine fx_atN (by decide) ha h5 ⟨fun c => ⟨rfl, hq _ ⟨fun _ => ?_, fun _ => rfl⟩⟩, fun c => ⟨rfl, hq _ ⟨fun z => absurd z (by decide), fun z => ?_⟩⟩⟩
  · rw [e2] at c
    exact fun z => c (k.mpr z)
  · rw [e2] at c
    exact absurd (k.mp c) z
theorem fx6_hasChild {T : bT6} {n : Nat} {C L : Nat → Nat} {P : Nat → Nat → Nat} {f : Nat → Int64} (t : TR6 T n C L P f) {a : Int32} {w y : Nat} {Q : Int32 → Prop} (hw : w < 512) (hE : IsE n C P w) (hy : (y : Int) = EB n C P w) (h5 : y < 296) (ha : a.toInt = (y : Int)) (hq : ∀ r : Int32, (r = 0 ↔ C (w % 64) = w / 64) → Q r) : wp_X6_hasChild T a Q := by
  obtain ⟨_, _, _, _, e5⟩ := t.2.2.2.2.2.2.2 w y hw hE hy
  unfold wp_X6_hasChild
  refine fx_atN (by decide) ha h5 ⟨fun c => ⟨rfl, hq _ ⟨fun _ => e5.mp c, fun _ => rfl⟩⟩, fun c => ⟨rfl, hq _ ⟨fun z => absurd z (by decide), fun z => absurd (e5.mpr z) c⟩⟩⟩
theorem fx6_endsAmong {T : bT6} {n : Nat} {C L : Nat → Nat} {P : Nat → Nat → Nat} {f : Nat → Int64} (G : GRD n C L P) (t : TR6 T n C L P f) {a1 a2 : Int32} {x y a b : Nat} {Q : Int32 → Prop} (h1 : a1.toInt = (x : Int)) (h2 : a2.toInt = (y : Int)) (hx : x < 233) (hy : y < 233) (hab : a ≤ b) (hb : b ≤ 512) (ea : (b6g_edgeStarts T x).toInt = EB n C P a) (eb : (b6g_edgeStarts T y).toInt = EB n C P b) (hq : ∀ r : Int32, r.toInt = DB n C L P b - DB n C L P a → Q r) : wp_X6_endsAmong T a1 a2 Q := by
  have m := EB_mono (n := n) (C := C) (P := P) hab
  have bl := EB_le G (w := b) hb
  have al := EB_le G (w := a) (by omega)
  unfold wp_X6_endsAmong
  refine fx_atN (by decide) h1 hx ?_
  unfold wp_X6_endsAmong_12
  refine ⟨fun k x2 x3 x4 => ∃ i p : Nat, a2 = x2 ∧ x4.toInt = (i : Int) ∧ a ≤ p ∧ p ≤ b ∧ (i : Int) = EB n C P p ∧ x3.toInt = DB n C L P p - DB n C L P a ∧ 0 ≤ x3.toInt ∧ x3.toInt ≤ (i : Int) - EB n C P a ∧ k = 300 - i, ⟨_, (EB n C P a).toNat, a, rfl, by omega, Nat.le_refl _, hab, by omega, by rw [pl_0]; omega, by decide, by rw [pl_0]; omega, rfl⟩, ?_⟩
  rintro k x2 x3 x4 ⟨i, p, rfl, e4, hap, hpb, hi, hv, v0, v1, hk⟩
  suffices H : ∀ B : Int32 → Int32 → Int32 → Prop, (∀ (v : Int32) (p' : Nat), a ≤ p' → p' ≤ b → ((i + 1 : Nat) : Int) = EB n C P p' → v.toInt = DB n C L P p' - DB n C L P a → 0 ≤ v.toInt → v.toInt ≤ (i : Int) + 1 - EB n C P a → (i : Int) < EB n C P b → B a2 v (x4 + 1)) → wp_X6_endsAmong_12b T a2 x3 x4 Q B from H _ (fun v p' t1 t2 t3 t4 t5 t6 hlt => ⟨300 - (i + 1), by omega, i + 1, p', rfl, by rw [pt_add (by rw [pl_1]; omega) (by rw [pl_1]; omega), pl_1, e4]; omega, t1, t2, t3, t4, t5, by omega, rfl⟩)
  intro B hB
  unfold wp_X6_endsAmong_12b
  refine fx_atN (by decide) h2 hy ⟨fun c => hq x3 ?_, fun c => ?_⟩
  · simp only [pn] at c
    have mp := EB_mono (n := n) (C := C) (P := P) hpb
    have k2 : DB n C L P p = DB n C L P b := CTP_sub2 (P := IsE n C P) (R := IsD n C L P) (fun w hw => hw.1) (by show EB n C P p = EB n C P b; omega)
    rw [hv, k2]
  simp only [pn] at c
  have hlt : (i : Int) < EB n C P b := by omega
  obtain ⟨w, w1, w2, w3⟩ := CTP_inv (P := IsE n C P) (e := (i : Int)) (by omega) b hlt
  have w3' : EB n C P w = (i : Int) := w3
  have aw : a ≤ w := by
    apply Classical.byContradiction
    intro z
    have lt : EB n C P w < EB n C P a := CTP_lt (by omega) w2
    have mp := EB_mono (n := n) (C := C) (P := P) hap
    omega
  have dw : DB n C L P w = DB n C L P p := CTP_sub2 (P := IsE n C P) (R := IsD n C L P) (fun w hw => hw.1) (by show EB n C P w = EB n C P p; omega)
  have nx : EB n C P (w + 1) = EB n C P w + 1 := CTP_y w2
  refine fx6_isEnd t (by omega) w2 w3'.symm (by omega) e4 (fun r3 hr => ⟨fun d => ?_, fun d => ?_⟩)
  · unfold wp_X6_endsAmong_40
    have nd : ¬ IsD n C L P w := fun z => hr.mp d z.2
    have dn : DB n C L P (w + 1) = DB n C L P w := CTP_n nd
    have e0 : (x3 + 0).toInt = x3.toInt := by rw [pt_add (by rw [pl_0]; omega) (by rw [pl_0]; omega), pl_0]; omega
    exact hB _ (w + 1) (by omega) (by omega) (by omega) (by rw [e0, dn, dw]; exact hv) (by omega) (by omega) hlt
  · unfold wp_X6_endsAmong_40
    have yd : IsD n C L P w := ⟨w2, Classical.byContradiction (fun z => d (hr.mpr z))⟩
    have dn : DB n C L P (w + 1) = DB n C L P w + 1 := CTP_y yd
    have e1 : (x3 + 1).toInt = x3.toInt + 1 := by rw [pt_add (by rw [pl_1]; omega) (by rw [pl_1]; omega), pl_1]
    exact hB _ (w + 1) (by omega) (by omega) (by omega) (by rw [e1, dn, dw]; omega) (by omega) (by omega) hlt
theorem fx6_childrenOf {T : bT6} {n : Nat} {C L : Nat → Nat} {P : Nat → Nat → Nat} {f : Nat → Int64} (G : GRD n C L P) (t : TR6 T n C L P f) {a1 : Int32} {x a b : Nat} {Q : Int32 → Prop} (h1 : a1.toInt = (x : Int)) (hx : x < 232) (hab : a ≤ b) (hb : b ≤ 512) (ea : (b6g_edgeStarts T x).toInt = EB n C P a) (eb : (b6g_edgeStarts T (x + 1)).toInt = EB n C P b) (hq : ∀ r : Int32, r.toInt = KB n C P b - KB n C P a → Q r) : wp_X6_childrenOf T a1 Q := by
  have m := EB_mono (n := n) (C := C) (P := P) hab
  have bl := EB_le G (w := b) hb
  have al := EB_le G (w := a) (by omega)
  have e11 : (a1 + 1).toInt = ((x + 1 : Nat) : Int) := by rw [pt_add (by rw [pl_1]; omega) (by rw [pl_1]; omega), pl_1]; omega
  unfold wp_X6_childrenOf
  refine fx_atN (by decide) h1 (by omega) ?_
  unfold wp_X6_childrenOf_11
  refine ⟨fun k x1 x2 x3 => ∃ i p : Nat, a1 = x1 ∧ x3.toInt = (i : Int) ∧ a ≤ p ∧ p ≤ b ∧ (i : Int) = EB n C P p ∧ x2.toInt = KB n C P p - KB n C P a ∧ 0 ≤ x2.toInt ∧ x2.toInt ≤ (i : Int) - EB n C P a ∧ k = 300 - i, ⟨_, (EB n C P a).toNat, a, rfl, by omega, Nat.le_refl _, hab, by omega, by rw [pl_0]; omega, by decide, by rw [pl_0]; omega, rfl⟩, ?_⟩
  rintro k x1 x2 x3 ⟨i, p, rfl, e4, hap, hpb, hi, hv, v0, v1, hk⟩
  suffices H : ∀ B : Int32 → Int32 → Int32 → Prop, (∀ (v : Int32) (p' : Nat), a ≤ p' → p' ≤ b → ((i + 1 : Nat) : Int) = EB n C P p' → v.toInt = KB n C P p' - KB n C P a → 0 ≤ v.toInt → v.toInt ≤ (i : Int) + 1 - EB n C P a → (i : Int) < EB n C P b → B a1 v (x3 + 1)) → wp_X6_childrenOf_11b T a1 x2 x3 Q B from H _ (fun v p' t1 t2 t3 t4 t5 t6 hlt => ⟨300 - (i + 1), by omega, i + 1, p', rfl, by rw [pt_add (by rw [pl_1]; omega) (by rw [pl_1]; omega), pl_1, e4]; omega, t1, t2, t3, t4, t5, by omega, rfl⟩)
  intro B hB
  unfold wp_X6_childrenOf_11b
  refine fx_atN (by decide) e11 (by omega) ⟨fun c => hq x2 ?_, fun c => ?_⟩
  · simp only [pn] at c
    have mp := EB_mono (n := n) (C := C) (P := P) hpb
    have k2 : KB n C P p = KB n C P b := CTP_sub2 (P := IsE n C P) (R := IsK n C P) (fun w hw => hw.1) (by show EB n C P p = EB n C P b; omega)
    rw [hv, k2]
  simp only [pn] at c
  have hlt : (i : Int) < EB n C P b := by omega
  obtain ⟨w, w1, w2, w3⟩ := CTP_inv (P := IsE n C P) (e := (i : Int)) (by omega) b hlt
  have w3' : EB n C P w = (i : Int) := w3
  have aw : a ≤ w := by
    apply Classical.byContradiction
    intro z
    have lt : EB n C P w < EB n C P a := CTP_lt (by omega) w2
    have mp := EB_mono (n := n) (C := C) (P := P) hap
    omega
  have dw : KB n C P w = KB n C P p := CTP_sub2 (P := IsE n C P) (R := IsK n C P) (fun w hw => hw.1) (by show EB n C P w = EB n C P p; omega)
  have nx : EB n C P (w + 1) = EB n C P w + 1 := CTP_y w2
  refine fx6_hasChild t (by omega) w2 w3'.symm (by omega) e4 (fun r3 hr => ⟨fun d => ?_, fun d => ?_⟩)
  · unfold wp_X6_childrenOf_39
    have nd : ¬ IsK n C P w := fun z => z.2 (hr.mp d)
    have dn : KB n C P (w + 1) = KB n C P w := CTP_n nd
    have e0 : (x2 + 0).toInt = x2.toInt := by rw [pt_add (by rw [pl_0]; omega) (by rw [pl_0]; omega), pl_0]; omega
    exact hB _ (w + 1) (by omega) (by omega) (by omega) (by rw [e0, dn, dw]; exact hv) (by omega) (by omega) hlt
  · unfold wp_X6_childrenOf_39
    have yd : IsK n C P w := ⟨w2, fun z => d (hr.mpr z)⟩
    have dn : KB n C P (w + 1) = KB n C P w + 1 := CTP_y yd
    have e1 : (x2 + 1).toInt = x2.toInt + 1 := by rw [pt_add (by rw [pl_1]; omega) (by rw [pl_1]; omega), pl_1]
    exact hB _ (w + 1) (by omega) (by omega) (by omega) (by rw [e1, dn, dw]; omega) (by omega) (by omega) hlt
theorem fx6_branches {T : bT6} {n : Nat} {C L : Nat → Nat} {P : Nat → Nat → Nat} {f : Nat → Int64} (G : GRD n C L P) (t : TR6 T n C L P f) {a1 a2 : Int32} {x y a b : Nat} {Q : Int32 → Prop} (h1 : a1.toInt = (x : Int)) (h2 : a2.toInt = (y : Int)) (hx : x < 233) (hy : y < 233) (hab : a ≤ b) (hb : b ≤ 512) (ea : (b6g_edgeStarts T x).toInt = EB n C P a) (eb : (b6g_edgeStarts T y).toInt = EB n C P b) (hq : ∀ r : Int32, r.toInt = BB n C L P b - BB n C L P a → Q r) : wp_X6_branches T a1 a2 Q := by
  have m := EB_mono (n := n) (C := C) (P := P) hab
  have bl := EB_le G (w := b) hb
  have al := EB_le G (w := a) (by omega)
  have p1 := DB_BB (n := n) (C := C) (L := L) (P := P) a
  have p2 := DB_BB (n := n) (C := C) (L := L) (P := P) b
  have dm : DB n C L P a ≤ DB n C L P b := CTP_le b hab
  have bm : BB n C L P a ≤ BB n C L P b := CTP_le b hab
  unfold wp_X6_branches
  refine fx6_edgesAmong h1 h2 hx hy (fx6_endsAmong G t h1 h2 hx hy hab hb ea eb (fun r3 hr => hq _ ?_))
  have q : (b6g_edgeStarts T y - b6g_edgeStarts T x).toInt = EB n C P b - EB n C P a := by rw [pt_sub (by omega) (by omega), ea, eb]
  rw [pt_sub (by rw [q, hr]; omega) (by rw [q, hr]; omega), q, hr]
  omega
/-! what is asked of a node -/
def NDV (n : Nat) (C L : Nat → Nat) (P : Nat → Nat → Nat) (un x a r : Int) : Prop := ∃ l s e : Nat, l ≤ 7 ∧ NST n C P l s ∧ GRQ n C P l s e n ∧ x = NB n C P (64 * l + s) ∧ (a = 0 → r = (l : Int)) ∧ (a = 1 → r = BB n C L P (64 * l + e) - BB n C L P (64 * l + s)) ∧ (a = 2 → r = KB n C P (64 * l + e) - KB n C P (64 * l + s)) ∧ (a = 3 → r = DB n C L P (64 * l + e) - DB n C L P (64 * l + s)) ∧ (a = 4 → (x < un → r = 1) ∧ (¬ x < un → r = 0)) ∧ (a = 5 → r = (s : Int)) ∧ (a = 6 → r = (e : Int) - (s : Int)) ∧ (¬ (0 ≤ a ∧ a ≤ 6) → r = -1)
theorem NDV_one {n : Nat} {C L : Nat → Nat} {P : Nat → Nat → Nat} (h64 : n ≤ 64) {un x a r q : Int} (h : NDV n C L P un x a r) (g : NDV n C L P un x a q) : r = q := by
  obtain ⟨l, s, e, h1, h2, h3, h4, a0, a1, a2, a3, a4, a5, a6, a7⟩ := h
  obtain ⟨l', s', e', g1, g2, g3, g4, b0, b1, b2, b3, b4, b5, b6, b7⟩ := g
  have sn := h2.1
  have sn' := g2.1
  have ew : 64 * l + s = 64 * l' + s' := CTP_inj (P := IsN n C P) ((IsN_at (by omega)).mpr h2) ((IsN_at (by omega)).mpr g2) (by show NB n C P (64 * l + s) = NB n C P (64 * l' + s'); omega)
  have el : l = l' := by omega
  have es : s = s' := by omega
  subst el
  subst es
  have ee := GRQ_one h3 g3
  subst ee
  by_cases z0 : a = 0
  · rw [a0 z0, b0 z0]
  by_cases z1 : a = 1
  · rw [a1 z1, b1 z1]
  by_cases z2 : a = 2
  · rw [a2 z2, b2 z2]
  by_cases z3 : a = 3
  · rw [a3 z3, b3 z3]
  by_cases z4 : a = 4
  · by_cases y : x < un
    · rw [(a4 z4).1 y, (b4 z4).1 y]
    · rw [(a4 z4).2 y, (b4 z4).2 y]
  by_cases z5 : a = 5
  · rw [a5 z5, b5 z5]
  by_cases z6 : a = 6
  · rw [a6 z6, b6 z6]
  rw [a7 (by omega), b7 (by omega)]
theorem AGX_b {X : bT1} {S : bT9} (h : AGX X S) : (∀ w, BB (tn X) (tC X) (tL X) (tP X) w = BB (n9 S) (C9 S) (L9 S) (P9 S) w) ∧ (∀ w, KB (tn X) (tC X) (tP X) w = KB (n9 S) (C9 S) (P9 S) w) ∧ (∀ w, DB (tn X) (tC X) (tL X) (tP X) w = DB (n9 S) (C9 S) (L9 S) (P9 S) w) ∧ (∀ l i, NST (tn X) (tC X) (tP X) l i ↔ NST (n9 S) (C9 S) (P9 S) l i) ∧ ∀ l s e, GRQ (tn X) (tC X) (tP X) l s e (tn X) ↔ GRQ (n9 S) (C9 S) (P9 S) l s e (n9 S) := by
  obtain ⟨e1, e2, _⟩ := AGX_g h
  have en := h.1
  have eL := h.2.2.1
  have eC := h.2.1
  have eP := h.2.2.2.1
  refine ⟨fun w => CTP_congr w (fun i _ => ?_), fun w => CTP_congr w (fun i _ => ?_), fun w => CTP_congr w (fun i _ => ?_), fun l i => ?_, fun l s e => ?_⟩
  · unfold IsB
    rw [e2]
    by_cases hi : i % 64 < n9 S
    · rw [eL _ hi]
    · exact ⟨fun z => absurd z.1.1 hi, fun z => absurd z.1.1 hi⟩
  · unfold IsK
    rw [e2]
    by_cases hi : i % 64 < n9 S
    · rw [eC _ hi]
    · exact ⟨fun z => absurd z.1.1 hi, fun z => absurd z.1.1 hi⟩
  · unfold IsD
    rw [e2]
    by_cases hi : i % 64 < n9 S
    · rw [eL _ hi]
    · exact ⟨fun z => absurd z.1.1 hi, fun z => absurd z.1.1 hi⟩
  · rw [en]
    unfold NST
    by_cases hi : i < n9 S
    · rw [eC i hi, eC (i - 1) (by omega), eP l i hi, eP l (i - 1) (by omega)]
    · exact ⟨fun t => absurd t.1 hi, fun t => absurd t.1 hi⟩
  · rw [en]
    unfold GRQ
    constructor
    · intro g
      have g1 := g.1
      have g2 := g.2.1
      refine ⟨g1, g2, fun k k1 k2 => ?_, fun t => ?_⟩
      · have := g.2.2.1 k k1 k2
        rw [eC k (by omega), eP l k (by omega), eP l s (by omega)] at this
        exact this
      · have := g.2.2.2 t
        rw [eC e t, eP l e t, eP l s (by omega)] at this
        exact this
    · intro g
      have g1 := g.1
      have g2 := g.2.1
      refine ⟨g1, g2, fun k k1 k2 => ?_, fun t => ?_⟩
      · rw [eC k (by omega), eP l k (by omega), eP l s (by omega)]
        exact g.2.2.1 k k1 k2
      · rw [eC e t, eP l e t, eP l s (by omega)]
        exact g.2.2.2 t
theorem NDV_agx {X : bT1} {S : bT9} (h : AGX X S) {un x a r : Int} (g : NDV (tn X) (tC X) (tL X) (tP X) un x a r) : NDV (n9 S) (C9 S) (L9 S) (P9 S) un x a r := by
  obtain ⟨_, _, _, eN, _, _⟩ := AGX_g h
  obtain ⟨eB, eK, eD, eS, eG⟩ := AGX_b h
  obtain ⟨l, s, e, g1, g2, g3, g4, a0, a1, a2, a3, a4⟩ := g
  rw [eB, eB] at a1
  rw [eK, eK] at a2
  rw [eD, eD] at a3
  rw [eN] at g4
  exact ⟨l, s, e, g1, (eS l s).mp g2, (eG l s e).mp g3, g4, a0, a1, a2, a3, a4⟩
/-! the upper levels of both -/
theorem TD_use {S u : bT9} (hJ : J9 u) (hP : T9P S) (sm : SM9 u S) (h : TDW u ∧ (b9g_areNodesLaid u).toInt ≠ 0 ∧ (b9g_isLaid u).toInt ≠ 0) : R9 u ∧ TD9 u := by
  have hPu := T9P_same hP sm
  exact ⟨R9_of hPu.1 hPu.2.1 hJ h.2.2, (h.1 h.2.1).1⟩
def UPX (X : bT1) (de ra : Int32) (k lv : Nat) : Prop := LEVS (tn X) (tC X) (tP X) (lv : Int) 8 ∧ lv ≤ 8 ∧ k ≤ lv ∧ UPS (tn X) (tC X) (tP X) de ra lv k
def UPD (S : bT9) (k lv : Nat) : Prop := LEVS (n9 S) (C9 S) (P9 S) (lv : Int) 8 ∧ lv ≤ 8 ∧ k ≤ lv ∧ UP9 (n9 S) (C9 S) (P9 S) (b9g_now S 13 - 1) (b9g_now S 14) lv k
theorem LEVS_one {n : Nat} {C : Nat → Nat} {P : Nat → Nat → Nat} {v w : Int} (h : LEVS n C P v 8) (g : LEVS n C P w 8) : v = w := by
  have nn := NB_nn (n := n) (C := C) (P := P)
  rcases h with ⟨h1, h2⟩ | ⟨q, h1, h2, h3, h4⟩
  · rcases g with ⟨g1, g2⟩ | ⟨p, g1, g2, g3, g4⟩
    · omega
    · have a := nn (64 * p)
      omega
  · rcases g with ⟨g1, g2⟩ | ⟨p, g1, g2, g3, g4⟩
    · have a := nn (64 * q)
      omega
    · have e : q = p := by
        apply Classical.byContradiction
        intro z
        by_cases y : q < p
        · have m := NB_mono (n := n) (C := C) (P := P) (show 64 * (q + 1) ≤ 64 * p by omega)
          have m2 := NB_mono (n := n) (C := C) (P := P) (show 64 * (p + 1) ≤ 64 * 8 by omega)
          omega
        · have m := NB_mono (n := n) (C := C) (P := P) (show 64 * (p + 1) ≤ 64 * q by omega)
          have m2 := NB_mono (n := n) (C := C) (P := P) (show 64 * (q + 1) ≤ 64 * 8 by omega)
          omega
      omega
theorem UPQ {X : bT1} {P : bT3} {S : bT9} (ag : AGX X S) (hb : (b9g_now S 9).toInt = 0 ∨ (b3g_values P 2 + 1 = b9g_now S 13 ∧ b3g_values P 3 = b9g_now S 14)) (hd : DB2 P) {k lv k' lv' : Nat} (h : UPX X (b3g_values P 2) (b3g_values P 3) k lv) (g : UPD S k' lv') : k = k' ∧ lv = lv' := by
  obtain ⟨_, _, _, eN, eE, _⟩ := AGX_g ag
  obtain ⟨h1, h2, h3, h4⟩ := h
  obtain ⟨g1, g2, g3, g4⟩ := g
  have h1' : LEVS (n9 S) (C9 S) (P9 S) (lv : Int) 8 := by
    unfold LEVS at h1 ⊢
    rcases h1 with ⟨a, b⟩ | ⟨q, a, b, c, d⟩
    · exact Or.inl ⟨a, by rw [← eN]; exact b⟩
    · exact Or.inr ⟨q, a, b, by rw [← eN, ← eN]; exact c, by rw [← eN, ← eN]; exact d⟩
  have el : lv = lv' := by
    have := LEVS_one h1' g1
    omega
  subst el
  refine ⟨?_, rfl⟩
  have d0 := hd.1
  have d9 := hd.2
  by_cases z : lv = 0
  · have a := g4.1 z
    omega
  · obtain ⟨e1, e2⟩ : b3g_values P 2 + 1 = b9g_now S 13 ∧ b3g_values P 3 = b9g_now S 14 := by
      rcases hb with y | y
      · exfalso
        have e0 : n9 S = 0 := by unfold n9; omega
        rcases g1 with ⟨y1, _⟩ | ⟨q, y1, _, y3, _⟩
        · omega
        · have kk : NB (n9 S) (C9 S) (P9 S) (64 * (q + 1)) = NB (n9 S) (C9 S) (P9 S) (64 * q) := CTP_st _ (by omega) (fun w _ _ r => by have := r.1; omega)
          omega
      · exact y
    have v21 : (b3g_values P 2 + 1).toInt = (b3g_values P 2).toInt + 1 := by rw [pt_add (by rw [pl_1]; omega) (by rw [pl_1]; omega), pl_1]
    have de : (b9g_now S 13 - 1).toInt = (b3g_values P 2).toInt := by
      rw [← e1, pt_sub (by rw [v21, pl_1]; omega) (by rw [v21, pl_1]; omega), v21, pl_1]
      omega
    have q := g4.2 z
    rw [de, ← e2] at q
    by_cases y : (b3g_values P 2).toInt = 9
    · have a := h4.1 y
      have b := q.1 (by omega)
      have eU : ∀ i, COU (tn X) (tC X) (tP X) (b3g_values P 3) i ↔ COU (n9 S) (C9 S) (P9 S) (b3g_values P 3) i := by
        intro i
        unfold COU BTN BTE
        rw [eN, eE, eE]
      exact UPR_one (n := n9 S) (C := C9 S) (P := P9 S) ⟨a.1, a.2.1.imp id (fun t => (eU k).mp t), fun i i1 i2 t => a.2.2 i i1 i2 ((eU i).mpr t)⟩ b
    · have a := h4.2 y
      have b := q.2 (by omega)
      omega
theorem C_node {X : bT1} {P : bT3} {S : bT9} {a b r q : Int32} (h9 : 0 ≤ (b9g_now S 9).toInt) (h64 : (b9g_now S 9).toInt ≤ 64) (hx : LFP X (b9g_now S) (fun j => b9g_keys S (64 + j)) (fun j => b9g_lengths S (64 + j))) (hb : (b9g_now S 9).toInt = 0 ∨ (b3g_values P 2 + 1 = b9g_now S 13 ∧ b3g_values P 3 = b9g_now S 14)) (hd : DB2 P) {A B : Prop} (ha : A) (hbb : B) (h : A → ∃ k lv : Nat, UPX X (b3g_values P 2) (b3g_values P 3) k lv ∧ ((0 ≤ a.toInt ∧ a.toInt < NB (tn X) (tC X) (tP X) 512) → NDV (tn X) (tC X) (tL X) (tP X) (NB (tn X) (tC X) (tP X) (64 * k)) a.toInt b.toInt r.toInt) ∧ (¬ (0 ≤ a.toInt ∧ a.toInt < NB (tn X) (tC X) (tP X) 512) → r.toInt = -1)) (h2 : B → ∃ k lv : Nat, UPD S k lv ∧ ((0 ≤ a.toInt ∧ a.toInt < NB (n9 S) (C9 S) (P9 S) 512) → NDV (n9 S) (C9 S) (L9 S) (P9 S) (NB (n9 S) (C9 S) (P9 S) (64 * k)) a.toInt b.toInt q.toInt) ∧ (¬ (0 ≤ a.toInt ∧ a.toInt < NB (n9 S) (C9 S) (P9 S) 512) → q.toInt = -1)) : r.toInt = q.toInt := by
  have ag := AGX_of h9 hx
  obtain ⟨_, _, _, eN, _, _⟩ := AGX_g ag
  obtain ⟨k, lv, u1, u2, u3⟩ := h ha
  obtain ⟨k', lv', v1, v2, v3⟩ := h2 hbb
  obtain ⟨e1, e2⟩ := UPQ ag hb hd u1 v1
  subst e1
  rw [eN] at u2 u3
  have n64 : n9 S ≤ 64 := by unfold n9; omega
  by_cases z : 0 ≤ a.toInt ∧ a.toInt < NB (n9 S) (C9 S) (P9 S) 512
  · refine NDV_one n64 (NDV_agx ag ?_) (v2 z)
    have := u2 z
    rw [eN] at this
    exact this
  · rw [u3 z, v3 z]
/-! items, least, tails -/
def ITV (n : Nat) (C L : Nat → Nat) (P : Nat → Nat → Nat) (f : Nat → Int64) (u : Nat) (k a r : Int) : Prop := ∃ w : Nat, 64 * u ≤ w ∧ w < 512 ∧ IsE n C P w ∧ EB n C P w - EB n C P (64 * u) = k ∧ (a = 0 → r = (OCV f L w).toInt) ∧ (a = 1 → (L (w % 64) = w / 64 → r = 1) ∧ (¬ L (w % 64) = w / 64 → r = 0)) ∧ (a = 2 → (C (w % 64) = w / 64 → r = 0) ∧ (¬ C (w % 64) = w / 64 → r = 1)) ∧ (a = 3 → r = NB n C P (w + 1) - 1) ∧ (¬ (0 ≤ a ∧ a ≤ 3) → r = -1)
theorem ITV_one {n : Nat} {C L : Nat → Nat} {P : Nat → Nat → Nat} {f : Nat → Int64} {u : Nat} {k a r q : Int} (h : ITV n C L P f u k a r) (g : ITV n C L P f u k a q) : r = q := by
  obtain ⟨w, _, _, h3, h4, a0, a1, a2, a3, a4⟩ := h
  obtain ⟨v, _, _, g3, g4, b0, b1, b2, b3, b4⟩ := g
  have e : w = v := CTP_inj (P := IsE n C P) h3 g3 (by show EB n C P w = EB n C P v; omega)
  subst e
  by_cases z0 : a = 0
  · rw [a0 z0, b0 z0]
  by_cases z1 : a = 1
  · by_cases y : L (w % 64) = w / 64
    · rw [(a1 z1).1 y, (b1 z1).1 y]
    · rw [(a1 z1).2 y, (b1 z1).2 y]
  by_cases z2 : a = 2
  · by_cases y : C (w % 64) = w / 64
    · rw [(a2 z2).1 y, (b2 z2).1 y]
    · rw [(a2 z2).2 y, (b2 z2).2 y]
  by_cases z3 : a = 3
  · rw [a3 z3, b3 z3]
  rw [a4 (by omega), b4 (by omega)]
theorem ITV_agx {X : bT1} {S : bT9} (h : AGX X S) {u : Nat} {k a r : Int} (g : ITV (tn X) (tC X) (tL X) (tP X) (b0g_bytes (b1g_owners X)) u k a r) : ITV (n9 S) (C9 S) (L9 S) (P9 S) (fun j => b9g_keys S (64 + j)) u k a r := by
  obtain ⟨_, eE2, _, eN, eE, _⟩ := AGX_g h
  obtain ⟨w, g1, g2, g3, g4, a0, a1, a2, a3, a4⟩ := g
  rw [eE, eE] at g4
  rw [eN] at a3
  have g3' := (eE2 w).mp g3
  have hi := g3'.1
  rw [h.2.2.1 _ hi] at a1
  rw [h.2.1 _ hi] at a2
  have eo : OCV (b0g_bytes (b1g_owners X)) (tL X) w = OCV (fun j => b9g_keys S (64 + j)) (L9 S) w := by
    unfold OCV
    rw [h.2.2.1 _ hi, h.2.2.2.2 _ hi]
  rw [eo] at a0
  exact ⟨w, g1, g2, g3', g4, a0, a1, a2, a3, a4⟩
theorem C_item {X : bT1} {P : bT3} {S : bT9} {a b r q : Int32} (h9 : 0 ≤ (b9g_now S 9).toInt) (hx : LFP X (b9g_now S) (fun j => b9g_keys S (64 + j)) (fun j => b9g_lengths S (64 + j))) (hb : (b9g_now S 9).toInt = 0 ∨ (b3g_values P 2 + 1 = b9g_now S 13 ∧ b3g_values P 3 = b9g_now S 14)) (hd : DB2 P) {A B : Prop} (ha : A) (hbb : B) (h : A → ∃ k lv : Nat, UPX X (b3g_values P 2) (b3g_values P 3) k lv ∧ ((0 ≤ a.toInt ∧ a.toInt < EB (tn X) (tC X) (tP X) 512 - EB (tn X) (tC X) (tP X) (64 * k)) → ITV (tn X) (tC X) (tL X) (tP X) (b0g_bytes (b1g_owners X)) k a.toInt b.toInt r.toInt) ∧ (¬ (0 ≤ a.toInt ∧ a.toInt < EB (tn X) (tC X) (tP X) 512 - EB (tn X) (tC X) (tP X) (64 * k)) → r.toInt = -1)) (h2 : B → ∃ k lv : Nat, UPD S k lv ∧ ((0 ≤ a.toInt ∧ a.toInt < EB (n9 S) (C9 S) (P9 S) 512 - EB (n9 S) (C9 S) (P9 S) (64 * k)) → ITV (n9 S) (C9 S) (L9 S) (P9 S) (fun j => b9g_keys S (64 + j)) k a.toInt b.toInt q.toInt) ∧ (¬ (0 ≤ a.toInt ∧ a.toInt < EB (n9 S) (C9 S) (P9 S) 512 - EB (n9 S) (C9 S) (P9 S) (64 * k)) → q.toInt = -1)) : r.toInt = q.toInt := by
  have ag := AGX_of h9 hx
  obtain ⟨_, _, _, _, eE, _⟩ := AGX_g ag
  obtain ⟨k, lv, u1, u2, u3⟩ := h ha
  obtain ⟨k', lv', v1, v2, v3⟩ := h2 hbb
  obtain ⟨e1, e2⟩ := UPQ ag hb hd u1 v1
  subst e1
  rw [eE, eE] at u2 u3
  by_cases z : 0 ≤ a.toInt ∧ a.toInt < EB (n9 S) (C9 S) (P9 S) 512 - EB (n9 S) (C9 S) (P9 S) (64 * k)
  · exact ITV_one (ITV_agx ag (u2 z)) (v2 z)
  · rw [u3 z, v3 z]
theorem fx9_hashBits {S : bT9} {Q : Int32 → Prop} (hq : Q (HBT (b9g_now S))) : wp_X9_hashBits S Q := by
  unfold wp_X9_hashBits
  refine ⟨pt_in (by decide) (by decide), by decide, fun c => ?_, fun c => ⟨pt_in (by decide) (by decide), ?_⟩⟩
  · have e : HBT (b9g_now S) = 0 := if_neg c
    rw [e] at hq
    exact hq
  · have e : HBT (b9g_now S) = b9g_now S 11 := if_pos c
    rw [e] at hq
    exact hq
theorem fx9_nextBits {S : bT9} {Q : Int32 → Prop} (hq : Q (NBT (b9g_now S))) : wp_X9_nextBits S Q := by
  unfold wp_X9_nextBits
  refine ⟨pt_in (by decide) (by decide), fun c => ?_, fun c => ⟨pt_in (by decide) (by decide), ?_⟩⟩
  · have e : NBT (b9g_now S) = 0 := if_pos c
    rw [e] at hq
    exact hq
  · have e : NBT (b9g_now S) = b9g_now S 12 := if_neg c
    rw [e] at hq
    exact hq
def TLB (c h r : Int32) : Int32 := c * (h + r)
theorem fx9_tailBits {S : bT9} {Q : Int32 → Prop} (hq : Q (TLB (b9g_now S 9) (HBT (b9g_now S)) (NBT (b9g_now S)))) : wp_X9_tailBits S Q := by
  unfold wp_X9_tailBits
  exact ⟨pt_in (by decide) (by decide), fx9_hashBits (fx9_nextBits hq)⟩
theorem TLB_eq {X : bT1} {n : Nat → Int32} {f : Nat → Int64} {g : Nat → Int32} (hx : LFP X n f g) : TLB (b0g_count (b1g_owners X)) (b1g_hashBits X) (b1g_realBits X) = TLB (n 9) (HBT n) (NBT n) := by
  rw [Int32.toInt_inj.mp hx.2.2.2.1, hx.2.2.2.2.2.1, hx.2.2.2.2.2.2.1]
noncomputable def BTS (n : Nat) (C : Nat → Nat) (P : Nat → Nat → Nat) (u : Nat) : Int := BTN n C P u + BTE n C P u
def LSU (n : Nat) (C : Nat → Nat) (P : Nat → Nat → Nat) (lv u : Nat) : Prop := u ≤ lv ∧ (∀ i, i < u → BTS n C P u < BTS n C P i) ∧ ∀ i, i ≤ lv → BTS n C P u ≤ BTS n C P i
theorem LSU_one {n : Nat} {C : Nat → Nat} {P : Nat → Nat → Nat} {lv u v : Nat} (h : LSU n C P lv u) (g : LSU n C P lv v) : u = v := by
  by_cases a : u < v
  · have x := g.2.1 u a
    have y := h.2.2 v g.1
    omega
  · by_cases b : v < u
    · have x := h.2.1 v b
      have y := g.2.2 u h.1
      omega
    · omega
def LSV (n : Nat) (C : Nat → Nat) (P : Nat → Nat → Nat) (tl : Int32) (lv : Nat) (a r : Int32) : Prop := ∃ u : Nat, LSU n C P lv u ∧ (a.toInt = 0 → r.toInt = (u : Int)) ∧ (a.toInt = 1 → ∃ x : Int32, x.toInt = BTS n C P u ∧ r = x + tl) ∧ (¬ (0 ≤ a.toInt ∧ a.toInt ≤ 1) → r.toInt = -1)
theorem LSV_one {n : Nat} {C : Nat → Nat} {P : Nat → Nat → Nat} {tl : Int32} {lv : Nat} {a r q : Int32} (h : LSV n C P tl lv a r) (g : LSV n C P tl lv a q) : r.toInt = q.toInt := by
  obtain ⟨u, h1, a0, a1, a2⟩ := h
  obtain ⟨v, g1, b0, b1, b2⟩ := g
  have e := LSU_one h1 g1
  subst e
  by_cases z0 : a.toInt = 0
  · rw [a0 z0, b0 z0]
  by_cases z1 : a.toInt = 1
  · obtain ⟨x, x1, x2⟩ := a1 z1
    obtain ⟨y, y1, y2⟩ := b1 z1
    rw [x2, y2, Int32.toInt_inj.mp (x1.trans y1.symm)]
  rw [a2 (by omega), b2 (by omega)]
theorem C_least {X : bT1} {P : bT3} {S : bT9} {a r q : Int32} (h9 : 0 ≤ (b9g_now S 9).toInt) (hx : LFP X (b9g_now S) (fun j => b9g_keys S (64 + j)) (fun j => b9g_lengths S (64 + j))) (hb : (b9g_now S 9).toInt = 0 ∨ (b3g_values P 2 + 1 = b9g_now S 13 ∧ b3g_values P 3 = b9g_now S 14)) (hd : DB2 P) {A B : Prop} (ha : A) (hbb : B) (h : A → ∃ k lv : Nat, UPX X (b3g_values P 2) (b3g_values P 3) k lv ∧ LSV (tn X) (tC X) (tP X) (TLB (b0g_count (b1g_owners X)) (b1g_hashBits X) (b1g_realBits X)) lv a r) (h2 : B → ∃ k lv : Nat, UPD S k lv ∧ LSV (n9 S) (C9 S) (P9 S) (TLB (b9g_now S 9) (HBT (b9g_now S)) (NBT (b9g_now S))) lv a q) : r.toInt = q.toInt := by
  have ag := AGX_of h9 hx
  obtain ⟨_, _, _, eN, eE, _⟩ := AGX_g ag
  obtain ⟨k, lv, u1, u2⟩ := h ha
  obtain ⟨k', lv', v1, v2⟩ := h2 hbb
  obtain ⟨e1, e2⟩ := UPQ ag hb hd u1 v1
  subst e2
  have eB : ∀ i, BTS (tn X) (tC X) (tP X) i = BTS (n9 S) (C9 S) (P9 S) i := by
    intro i
    unfold BTS BTN BTE
    rw [eN, eE, eE]
  refine LSV_one ?_ v2
  obtain ⟨u, w1, w2, w3, w4⟩ := u2
  rw [TLB_eq hx, eB] at w3
  refine ⟨u, ⟨w1.1, fun i hi => ?_, fun i hi => ?_⟩, w2, w3, w4⟩
  · have := w1.2.1 i hi
    rw [eB, eB] at this
    exact this
  · have := w1.2.2 i hi
    rw [eB, eB] at this
    exact this
theorem LSU_ex {n : Nat} {C : Nat → Nat} {P : Nat → Nat → Nat} : ∀ lv : Nat, ∃ u : Nat, LSU n C P lv u := by
  intro lv
  induction lv with
  | zero => exact ⟨0, Nat.le_refl _, fun i hi => by omega, fun i hi => by rw [show i = 0 by omega]; exact Int.le_refl _⟩
  | succ lv ih =>
    obtain ⟨u, h1, h2, h3⟩ := ih
    by_cases z : BTS n C P (lv + 1) < BTS n C P u
    · refine ⟨lv + 1, Nat.le_refl _, fun i hi => ?_, fun i hi => ?_⟩
      · have := h3 i (by omega)
        omega
      · by_cases y : i = lv + 1
        · rw [y]; exact Int.le_refl _
        · have := h3 i (by omega)
          omega
    · refine ⟨u, by omega, h2, fun i hi => ?_⟩
      by_cases y : i = lv + 1
      · rw [y]; omega
      · exact h3 i (by omega)
/-! what is asked of a leaf -/
def LFV (n : Nat) (C : Nat → Nat) (P : Nat → Nat → Nat) (f : Nat → Int64) (g : Nat → Int32) (sa hb rb : Int32) (i : Nat) (a r : Int32) : Prop := (a.toInt = 0 → r.toInt = ((min (C i + 1) (g i).toInt.toNat : Nat) : Int)) ∧ (a.toInt = 1 → (C i = (g i).toInt.toNat → r.toInt = 1) ∧ (¬ C i = (g i).toInt.toNat → r.toInt = 0)) ∧ (a.toInt = 2 → r = LWS (MIX sa (f i) (g i)) hb) ∧ (a.toInt = 3 → r = (OC8 (f i) (nI (min (C i + 1) (g i).toInt.toNat))) >>> (((8 : Int32) - rb) &&& 31)) ∧ (a.toInt = 4 → r.toInt = LB n C (64 * C i + i)) ∧ (a.toInt = 5 → r.toInt = NB n C P (64 * C i + i + 1) - 1) ∧ (a.toInt = 6 → r.toInt = (C i : Int)) ∧ (10 ≤ a.toInt ∧ a.toInt < 10 + ((min (C i + 1) (g i).toInt.toNat : Nat) : Int) → r = OCT (f i) (a - 10)) ∧ (¬ (0 ≤ a.toInt ∧ a.toInt ≤ 6) → ¬ (10 ≤ a.toInt ∧ a.toInt < 10 + ((min (C i + 1) (g i).toInt.toNat : Nat) : Int)) → r.toInt = -1)
theorem LFV_one {n : Nat} {C : Nat → Nat} {P : Nat → Nat → Nat} {f : Nat → Int64} {g : Nat → Int32} {sa hb rb : Int32} {i : Nat} {a r q : Int32} (h : LFV n C P f g sa hb rb i a r) (k : LFV n C P f g sa hb rb i a q) : r.toInt = q.toInt := by
  obtain ⟨a0, a1, a2, a3, a4, a5, a6, a7, a8⟩ := h
  obtain ⟨b0, b1, b2, b3, b4, b5, b6, b7, b8⟩ := k
  by_cases z0 : a.toInt = 0
  · rw [a0 z0, b0 z0]
  by_cases z1 : a.toInt = 1
  · by_cases y : C i = (g i).toInt.toNat
    · rw [(a1 z1).1 y, (b1 z1).1 y]
    · rw [(a1 z1).2 y, (b1 z1).2 y]
  by_cases z2 : a.toInt = 2
  · rw [a2 z2, b2 z2]
  by_cases z3 : a.toInt = 3
  · rw [a3 z3, b3 z3]
  by_cases z4 : a.toInt = 4
  · rw [a4 z4, b4 z4]
  by_cases z5 : a.toInt = 5
  · rw [a5 z5, b5 z5]
  by_cases z6 : a.toInt = 6
  · rw [a6 z6, b6 z6]
  by_cases z7 : 10 ≤ a.toInt ∧ a.toInt < 10 + ((min (C i + 1) (g i).toInt.toNat : Nat) : Int)
  · rw [a7 z7, b7 z7]
  · rw [a8 (by omega) z7, b8 (by omega) z7]
theorem C_leaf2 {X : bT1} {S : bT9} {a b r q : Int32} (h9 : 0 ≤ (b9g_now S 9).toInt) (hx : LFP X (b9g_now S) (fun j => b9g_keys S (64 + j)) (fun j => b9g_lengths S (64 + j))) {A B : Prop} (ha : A) (hbb : B) (h : A → ((0 ≤ a.toInt ∧ a.toInt < (b0g_count (b1g_owners X)).toInt) → LFV (tn X) (tC X) (tP X) (b0g_bytes (b1g_owners X)) (b0g_lengths (b1g_owners X)) (b1g_salt X) (b1g_hashBits X) (b1g_realBits X) a.toInt.toNat b r) ∧ (¬ (0 ≤ a.toInt ∧ a.toInt < (b0g_count (b1g_owners X)).toInt) → r.toInt = -1)) (h2 : B → ((0 ≤ a.toInt ∧ a.toInt < (b9g_now S 9).toInt) → LFV (n9 S) (C9 S) (P9 S) (fun j => b9g_keys S (64 + j)) (fun j => b9g_lengths S (64 + j)) (b9g_now S 16) (HBT (b9g_now S)) (NBT (b9g_now S)) a.toInt.toNat b q) ∧ (¬ (0 ≤ a.toInt ∧ a.toInt < (b9g_now S 9).toInt) → q.toInt = -1)) : r.toInt = q.toInt := by
  have ag := AGX_of h9 hx
  obtain ⟨_, _, _, eN, _, eL⟩ := AGX_g ag
  have u := h ha
  have v := h2 hbb
  rw [hx.2.2.2.1] at u
  by_cases z : 0 ≤ a.toInt ∧ a.toInt < (b9g_now S 9).toInt
  · refine LFV_one ?_ (v.1 z)
    have w := u.1 z
    have hi : a.toInt.toNat < n9 S := by unfold n9; omega
    have e1 := (hx.2.2.2.2.1 a.toInt.toNat (by omega)).1
    have e2 := (hx.2.2.2.2.1 a.toInt.toNat (by omega)).2
    unfold LFV at w ⊢
    rw [ag.2.1 _ hi, eL, eN, hx.2.2.2.2.2.1, hx.2.2.2.2.2.2.1, hx.2.2.2.2.2.2.2.1] at w
    rw [e1, e2]
    exact w
  · rw [u.2 z, v.2 z]
theorem i32_sh0 (x : Int32) : (0 : Int32) >>> x = 0 := by
  rw [Int32.zero_shiftRight]
/-- the node of a leaf -/
theorem fx9_nodeOf {S : bT9} (h : R9 S) (hN : N9 S) {a1 : Int32} {i : Nat} {Q : Int32 → Prop} (h1 : a1.toInt = (i : Int)) (hi : i < n9 S) (hq : ∀ r : Int32, r.toInt = NB (n9 S) (C9 S) (P9 S) (64 * C9 S i + i + 1) - 1 → Q r) : wp_X9_nodeOf S a1 Q := by
  have G := h.1
  have g64 := G.1
  have ai := G.2.1 i hi
  have bi := h.2.2 i hi
  obtain ⟨s, s1, s2, s3, s4⟩ := GRP_st (P := P9 S) g64 (l := C9 S i) i hi (Nat.le_refl _)
  have n5 := NB_le G (l := 7) (i := 64) (by omega) (by omega)
  have nb5 : NB (n9 S) (C9 S) (P9 S) (64 * 7 + 64) = NB (n9 S) (C9 S) (P9 S) 512 := rfl
  have nn := NB_nn (n := n9 S) (C := C9 S) (P := P9 S) (64 * C9 S i + s)
  have lt5 : NB (n9 S) (C9 S) (P9 S) (64 * C9 S i + s) < NB (n9 S) (C9 S) (P9 S) 512 := CTP_lt (by omega) ((IsN_at (by omega)).mpr s2)
  have hm := hN.1
  have ei : a1.toNatClampNeg = i := by
    show a1.toInt.toNat = i
    omega
  have loop : ∀ t0 : Int32, t0.toInt = (C9 S i : Int) → wp_X9_nodeOf_25 S a1 t0 Q := by
    intro t0 ht
    unfold wp_X9_nodeOf_25 wp_X9_nodeOf_28
    refine ⟨fun k x1 x2 x3 => ∃ x : Nat, a1 = x1 ∧ t0 = x2 ∧ x3.toInt = (x : Int) ∧ (x : Int) ≤ NB (n9 S) (C9 S) (P9 S) (64 * C9 S i + s) ∧ k = 600 - x, ⟨_, 0, rfl, rfl, rfl, by omega, rfl⟩, ?_⟩
    rintro k x1 x2 x3 ⟨x, rfl, rfl, e3, xm, hk⟩
    suffices H : ∀ B : Int32 → Int32 → Int32 → Prop, ((x : Int) < NB (n9 S) (C9 S) (P9 S) (64 * C9 S i + s) → B a1 t0 (x3 + 1)) → wp_X9_nodeOf_28b S a1 t0 x3 Q B from H _ (fun hx => ⟨600 - (x + 1), by omega, x + 1, rfl, rfl, by rw [pt_add (by rw [pl_1]; omega) (by rw [pl_1]; omega), pl_1, e3]; omega, by omega, rfl⟩)
    intro B hB
    have ex : x3.toNatClampNeg = x := by
      show x3.toInt.toNat = x
      omega
    obtain ⟨l, t, e, ha⟩ := AT9_of h hN (x := x) (by omega)
    have ha' := ha
    obtain ⟨x5, l7, hs, hg, hx, f1, f2, f3⟩ := ha'
    have ge := hg.1
    have gn := hg.2.1
    -- the node is the one exactly when the leaf is in it
    have one : l = C9 S i → t ≤ i → i < e → (x : Int) = NB (n9 S) (C9 S) (P9 S) (64 * C9 S i + s) := by
      intro z1 z2 z3
      subst z1
      have k := NST_one hs s2 z2 s1 (fun k k1 k2 => hg.2.2.1 k k1 (by omega)) s4
      rw [← k]
      exact hx
    have back : (x : Int) = NB (n9 S) (C9 S) (P9 S) (64 * C9 S i + s) → l = C9 S i ∧ t ≤ i ∧ i < e := by
      intro z
      have w : 64 * l + t = 64 * C9 S i + s := CTP_inj (P := IsN (n9 S) (C9 S) (P9 S)) ((IsN_at (by omega)).mpr hs) ((IsN_at (by omega)).mpr s2) (by show NB (n9 S) (C9 S) (P9 S) (64 * l + t) = NB (n9 S) (C9 S) (P9 S) (64 * C9 S i + s); omega)
      have el : l = C9 S i := by omega
      have et : t = s := by omega
      refine ⟨el, by omega, ?_⟩
      apply Classical.byContradiction
      intro y
      have q := s4 e (by omega) (by omega)
      refine hg.2.2.2 (by omega) ⟨by rw [el]; exact q.1, ?_⟩
      rw [el, et]
      exact q.2
    unfold wp_X9_nodeOf_28b
    rw [ex]
    refine ⟨fun c => ?_, fun c => ⟨pt_in (by omega) (by omega), fun d => ?_, fun d => ⟨pt_in (by omega) (by omega), fun d2 => ?_, fun d2 => fx9_lastOf e3 x5 f2 f3 ge (by omega) (fun r1 hr => ⟨fun d3 => ?_, fun d3 => ?_⟩)⟩⟩⟩
    · simp only [pn] at c
      omega
    · simp only [pn] at d
      unfold wp_X9_nodeOf_67
      refine hB ?_
      apply Classical.byContradiction
      intro y
      have := back (by omega)
      omega
    · simp only [pn] at d2
      unfold wp_X9_nodeOf_67
      refine hB ?_
      apply Classical.byContradiction
      intro y
      have := back (by omega)
      omega
    · simp only [pn] at d3
      unfold wp_X9_nodeOf_67
      refine hB ?_
      apply Classical.byContradiction
      intro y
      have := back (by omega)
      omega
    · simp only [pn] at d d2 d3
      refine hq x3 ?_
      have := one (by omega) (by omega) (by omega)
      rw [s3]
      omega
  have c9 : b9g_lengths S (64 + i) = b9g_lengths S (64 + i) := rfl
  have ln : L9 S i = (b9g_lengths S (64 + i)).toInt.toNat := rfl
  unfold wp_X9_nodeOf wp_X9_isEnded
  refine ⟨pt_in (by omega) (by omega), fx9_lengthOf (by omega) (by omega) ?_⟩
  rw [ei]
  refine ⟨fun c => ⟨rfl, fun _ => ⟨pt_in (by omega) (by omega), loop _ ?_⟩, fun z => absurd rfl z⟩, fun c => ⟨rfl, fun z => absurd z (by decide), fun _ => ⟨pt_in (by omega) (by omega), loop _ ?_⟩⟩⟩
  · simp only [pn] at c
    rw [pt_sub (by rw [pl_1]; omega) (by rw [pl_1]; omega), pl_1]
    omega
  · simp only [pn] at c
    omega
/-! a look -/
def SMB (b : Nat → Nat) : Nat → Int
  | 0 => 0
  | i + 1 => SMB b i + (b i : Int)
theorem SMB_congr {b d : Nat → Nat} : ∀ n : Nat, (∀ i, i < n → b i = d i) → SMB b n = SMB d n := by
  intro n
  induction n with
  | zero => exact fun _ => rfl
  | succ n ih =>
    intro h
    show SMB b n + (b n : Int) = SMB d n + (d n : Int)
    rw [ih (fun i hi => h i (by omega)), h n (by omega)]
theorem SMB_rng {b : Nat → Nat} (hb : ∀ i, b i ≤ 8) : ∀ n : Nat, 0 ≤ SMB b n ∧ SMB b n ≤ 8 * (n : Int) := by
  intro n
  induction n with
  | zero => exact ⟨Int.le_refl _, Int.le_refl _⟩
  | succ n ih =>
    have := hb n
    show 0 ≤ SMB b n + (b n : Int) ∧ SMB b n + (b n : Int) ≤ 8 * ((n + 1 : Nat) : Int)
    omega
theorem fx_allEnded {X : bT1} (o : LVO X) (j : J1 X) {Q : Int32 → Prop} (hq : ∀ r : Int32, r.toInt = CTP (fun i => tC X i = tL X i) (tn X) → Q r) : wp_X1_allEnded X Q := by
  have jn := tnn j
  have jo := J0g_count (J1g_owners j)
  unfold wp_X1_allEnded wp_X1_allEnded_4
  refine ⟨fun k x1 x2 => ∃ i : Nat, x2.toInt = (i : Int) ∧ i ≤ tn X ∧ x1.toInt = CTP (fun i => tC X i = tL X i) i ∧ k = 64 - i, ⟨_, 0, rfl, by omega, rfl, rfl⟩, ?_⟩
  rintro k x1 x2 ⟨i, e2, hi, hv, hk⟩
  have cr := CTP_rng (fun i => tC X i = tL X i) i
  suffices H : ∀ B : Int32 → Int32 → Prop, (∀ v : Int32, i < tn X → v.toInt = CTP (fun i => tC X i = tL X i) (i + 1) → B v (x2 + 1)) → wp_X1_allEnded_4b X x1 x2 Q B from H _ (fun v h t => ⟨64 - (i + 1), by omega, i + 1, by rw [pt_add (by rw [pl_1]; omega) (by rw [pl_1]; omega), pl_1, e2]; omega, by omega, t, rfl⟩)
  intro B hB
  unfold wp_X1_allEnded_4b
  refine ⟨fun c => ?_, fun c => ?_⟩
  · simp only [pn] at c
    have ei : i = tn X := by omega
    rw [ei] at hv
    exact hq x1 hv
  simp only [pn] at c
  refine fx_endAt o j e2 (by omega) (fun r1 hr => ⟨fun d => ?_, fun d => ?_⟩)
  · unfold wp_X1_allEnded_29
    refine hB _ (by omega) ?_
    rw [CTP_n (P := fun i => tC X i = tL X i) (hr.mp d), pt_add (by rw [pl_0]; omega) (by rw [pl_0]; omega), pl_0, hv]
    omega
  · unfold wp_X1_allEnded_29
    refine hB _ (by omega) ?_
    rw [CTP_y (P := fun i => tC X i = tL X i) (Classical.byContradiction (fun z => d (hr.mpr z))), pt_add (by rw [pl_1]; omega) (by rw [pl_1]; omega), pl_1, hv]
theorem fx_allBytes {X : bT1} (o : LVO X) (j : J1 X) {Q : Int32 → Prop} (hq : ∀ r : Int32, r.toInt = SMB (fun i => min (min (tC X i + 1) (tL X i)) 8) (tn X) → Q r) : wp_X1_allBytes X Q := by
  have jn := tnn j
  have jo := J0g_count (J1g_owners j)
  have G := tG o j
  unfold wp_X1_allBytes wp_X1_allBytes_4
  refine ⟨fun k x1 x2 => ∃ i : Nat, x2.toInt = (i : Int) ∧ i ≤ tn X ∧ x1.toInt = SMB (fun i => min (min (tC X i + 1) (tL X i)) 8) i ∧ k = 64 - i, ⟨_, 0, rfl, by omega, rfl, rfl⟩, ?_⟩
  rintro k x1 x2 ⟨i, e2, hi, hv, hk⟩
  have cr := SMB_rng (b := fun i => min (min (tC X i + 1) (tL X i)) 8) (fun i => Nat.min_le_right _ _) i
  suffices H : ∀ B : Int32 → Int32 → Prop, (∀ v : Int32, i < tn X → v.toInt = SMB (fun i => min (min (tC X i + 1) (tL X i)) 8) (i + 1) → B v (x2 + 1)) → wp_X1_allBytes_4b X x1 x2 Q B from H _ (fun v h t => ⟨64 - (i + 1), by omega, i + 1, by rw [pt_add (by rw [pl_1]; omega) (by rw [pl_1]; omega), pl_1, e2]; omega, by omega, t, rfl⟩)
  intro B hB
  unfold wp_X1_allBytes_4b
  refine ⟨fun c => ?_, fun c => ?_⟩
  · simp only [pn] at c
    have ei : i = tn X := by omega
    rw [ei] at hv
    exact hq x1 hv
  simp only [pn] at c
  refine fx_lenAt o j e2 (by omega) (fun r1 hr => hB _ (by omega) ?_)
  have ai := G.2.1 i (by omega)
  show (x1 + r1).toInt = SMB (fun i => min (min (tC X i + 1) (tL X i)) 8) i + ((min (min (tC X i + 1) (tL X i)) 8 : Nat) : Int)
  rw [pt_add (by omega) (by omega), hv, hr]
  omega
theorem fx9_isEnded {S : bT9} (h : R9 S) {a : Int32} {i : Nat} {Q : Int32 → Prop} (h0 : a.toInt = (i : Int)) (h1 : i < n9 S) (hk : K9 S) (hq : ∀ r : Int32, (r = 0 ↔ ¬ C9 S i = L9 S i) → Q r) : wp_X9_isEnded S a Q := by
  have g64 := h.1.1
  have bi := (h.2.2 i h1).2
  have lr := K9g_lengths hk (64 + i)
  have ln : L9 S i = (b9g_lengths S (64 + i)).toInt.toNat := rfl
  have ei : a.toNatClampNeg = i := by
    show a.toInt.toNat = i
    omega
  unfold wp_X9_isEnded
  refine ⟨pt_in (by omega) (by omega), fx9_lengthOf (by omega) (by omega) ?_⟩
  rw [ei]
  refine ⟨fun c => ⟨rfl, hq _ ⟨fun _ => ?_, fun _ => rfl⟩⟩, fun c => ⟨rfl, hq _ ⟨fun z => absurd z (by decide), fun z => absurd ?_ z⟩⟩⟩
  · simp only [pn] at c
    omega
  · simp only [pn] at c
    omega
theorem fx9_endedMany {S : bT9} (h : R9 S) (hk : K9 S) {Q : Int32 → Prop} (hq : ∀ r : Int32, r.toInt = CTP (fun i => C9 S i = L9 S i) (n9 S) → Q r) : wp_X9_endedMany S Q := by
  have g64 := h.1.1
  have en : ((n9 S : Nat) : Int) = (b9g_now S 9).toInt := by have := h.2.1; unfold n9; omega
  unfold wp_X9_endedMany wp_X9_endedMany_4
  refine ⟨fun k x1 x2 => ∃ i : Nat, x2.toInt = (i : Int) ∧ i ≤ n9 S ∧ x1.toInt = CTP (fun i => C9 S i = L9 S i) i ∧ k = 64 - i, ⟨_, 0, rfl, by omega, rfl, rfl⟩, ?_⟩
  rintro k x1 x2 ⟨i, e2, hi, hv, hk'⟩
  have cr := CTP_rng (fun i => C9 S i = L9 S i) i
  suffices H : ∀ B : Int32 → Int32 → Prop, (∀ v : Int32, i < n9 S → v.toInt = CTP (fun i => C9 S i = L9 S i) (i + 1) → B v (x2 + 1)) → wp_X9_endedMany_4b S x1 x2 Q B from H _ (fun v h t => ⟨64 - (i + 1), by omega, i + 1, by rw [pt_add (by rw [pl_1]; omega) (by rw [pl_1]; omega), pl_1, e2]; omega, by omega, t, rfl⟩)
  intro B hB
  have e9 : b9g_now S ((9 : Int32)).toNatClampNeg = b9g_now S 9 := rfl
  unfold wp_X9_endedMany_4b
  rw [e9]
  refine ⟨pt_in (by decide) (by decide), fun c => ?_, fun c => ?_⟩
  · simp only [pn] at c
    have ei : i = n9 S := by omega
    rw [ei] at hv
    exact hq x1 hv
  simp only [pn] at c
  refine fx9_isEnded h e2 (by omega) hk (fun r1 hr => ⟨fun d => ?_, fun d => ?_⟩)
  · unfold wp_X9_endedMany_27
    refine hB _ (by omega) ?_
    rw [CTP_n (P := fun i => C9 S i = L9 S i) (hr.mp d), hv]
  · unfold wp_X9_endedMany_27
    refine hB _ (by omega) ?_
    rw [CTP_y (P := fun i => C9 S i = L9 S i) (Classical.byContradiction (fun z => d (hr.mpr z))), pt_add (by rw [pl_1]; omega) (by rw [pl_1]; omega), pl_1, hv]
theorem fx9_beginningBytes {S : bT9} (h : R9 S) {Q : Int32 → Prop} (hq : ∀ r : Int32, r.toInt = SMB (fun i => min (min (C9 S i + 1) (L9 S i)) 8) (n9 S) → Q r) : wp_X9_beginningBytes S Q := by
  have g64 := h.1.1
  have en : ((n9 S : Nat) : Int) = (b9g_now S 9).toInt := by have := h.2.1; unfold n9; omega
  unfold wp_X9_beginningBytes wp_X9_beginningBytes_4
  refine ⟨fun k x1 x2 => ∃ i : Nat, x2.toInt = (i : Int) ∧ i ≤ n9 S ∧ x1.toInt = SMB (fun i => min (min (C9 S i + 1) (L9 S i)) 8) i ∧ k = 64 - i, ⟨_, 0, rfl, by omega, rfl, rfl⟩, ?_⟩
  rintro k x1 x2 ⟨i, e2, hi, hv, hk'⟩
  have cr := SMB_rng (b := fun i => min (min (C9 S i + 1) (L9 S i)) 8) (fun i => Nat.min_le_right _ _) i
  suffices H : ∀ B : Int32 → Int32 → Prop, (∀ v : Int32, i < n9 S → v.toInt = SMB (fun i => min (min (C9 S i + 1) (L9 S i)) 8) (i + 1) → B v (x2 + 1)) → wp_X9_beginningBytes_4b S x1 x2 Q B from H _ (fun v h t => ⟨64 - (i + 1), by omega, i + 1, by rw [pt_add (by rw [pl_1]; omega) (by rw [pl_1]; omega), pl_1, e2]; omega, by omega, t, rfl⟩)
  intro B hB
  have e9 : b9g_now S ((9 : Int32)).toNatClampNeg = b9g_now S 9 := rfl
  have ei : x2.toNatClampNeg = i := by
    show x2.toInt.toNat = i
    omega
  unfold wp_X9_beginningBytes_4b
  rw [e9, ei]
  refine ⟨pt_in (by decide) (by decide), fun c => ?_, fun c => ?_⟩
  · simp only [pn] at c
    have ei : i = n9 S := by omega
    rw [ei] at hv
    exact hq x1 hv
  simp only [pn] at c
  have bi := (h.2.2 i (by omega)).1
  have ai := h.1.2.1 i (by omega)
  refine ⟨pt_in (by omega) (by omega), hB _ (by omega) ?_⟩
  show (x1 + b9g_beginning S i).toInt = SMB (fun i => min (min (C9 S i + 1) (L9 S i)) 8) i + ((min (min (C9 S i + 1) (L9 S i)) 8 : Nat) : Int)
  rw [pt_add (by omega) (by omega), hv, bi]
  omega
def LKV (vals : Nat → Int32) (md dr : Int32) (mc lc nb : Int) (lv k : Nat) (un it : Int) (hb rb : Int32) (qc tc en bs : Int) (a r : Int32) : Prop := (0 ≤ a.toInt ∧ a.toInt ≤ 5 → r = vals a.toInt.toNat) ∧ (a.toInt = 6 → r = md) ∧ (a.toInt = 7 → r = dr) ∧ (a.toInt = 8 → r.toInt = mc) ∧ (a.toInt = 9 → r.toInt = lc) ∧ (a.toInt = 10 → r.toInt = nb) ∧ (a.toInt = 11 → r.toInt = (lv : Int)) ∧ (a.toInt = 12 → r.toInt = (k : Int)) ∧ (a.toInt = 13 → r.toInt = un) ∧ (a.toInt = 14 → r.toInt = it) ∧ (a.toInt = 15 → r = hb) ∧ (a.toInt = 16 → r = rb) ∧ (a.toInt = 17 → r.toInt = qc) ∧ (a.toInt = 18 → r.toInt = tc) ∧ (a.toInt = 19 → r.toInt = en) ∧ (a.toInt = 20 → r.toInt = bs) ∧ (¬ (0 ≤ a.toInt ∧ a.toInt ≤ 20) → r.toInt = -100000000)
theorem LKV_one {v w : Nat → Int32} {md dr : Int32} {mc lc nb : Int} {lv k : Nat} {un it : Int} {hb rb : Int32} {qc tc en bs : Int} {a r q : Int32} (hv : ∀ i, i ≤ 5 → v i = w i) (h : LKV v md dr mc lc nb lv k un it hb rb qc tc en bs a r) (g : LKV w md dr mc lc nb lv k un it hb rb qc tc en bs a q) : r.toInt = q.toInt := by
  obtain ⟨a0, a6, a7, a8, a9, a10, a11, a12, a13, a14, a15, a16, a17, a18, a19, a20, a21⟩ := h
  obtain ⟨b0, b6, b7, b8, b9, b10, b11, b12, b13, b14, b15, b16, b17, b18, b19, b20, b21⟩ := g
  by_cases z0 : 0 ≤ a.toInt ∧ a.toInt ≤ 5
  · rw [a0 z0, b0 z0, hv _ (by omega)]
  by_cases z6 : a.toInt = 6
  · rw [a6 z6, b6 z6]
  by_cases z7 : a.toInt = 7
  · rw [a7 z7, b7 z7]
  by_cases z8 : a.toInt = 8
  · rw [a8 z8, b8 z8]
  by_cases z9 : a.toInt = 9
  · rw [a9 z9, b9 z9]
  by_cases z10 : a.toInt = 10
  · rw [a10 z10, b10 z10]
  by_cases z11 : a.toInt = 11
  · rw [a11 z11, b11 z11]
  by_cases z12 : a.toInt = 12
  · rw [a12 z12, b12 z12]
  by_cases z13 : a.toInt = 13
  · rw [a13 z13, b13 z13]
  by_cases z14 : a.toInt = 14
  · rw [a14 z14, b14 z14]
  by_cases z15 : a.toInt = 15
  · rw [a15 z15, b15 z15]
  by_cases z16 : a.toInt = 16
  · rw [a16 z16, b16 z16]
  by_cases z17 : a.toInt = 17
  · rw [a17 z17, b17 z17]
  by_cases z18 : a.toInt = 18
  · rw [a18 z18, b18 z18]
  by_cases z19 : a.toInt = 19
  · rw [a19 z19, b19 z19]
  by_cases z20 : a.toInt = 20
  · rw [a20 z20, b20 z20]
  rw [a21 (by omega), b21 (by omega)]
theorem C_look {X : bT8} {S : bT9} {a r q : Int32} (h9 : 0 ≤ (b9g_now S 9).toInt) (hx : LFP (b8g_leaves X) (b9g_now S) (fun j => b9g_keys S (64 + j)) (fun j => b9g_lengths S (64 + j))) (hb : (b9g_now S 9).toInt = 0 ∨ (b3g_values (b2g_built (b8g_now X)) 2 + 1 = b9g_now S 13 ∧ b3g_values (b2g_built (b8g_now X)) 3 = b9g_now S 14)) (hd : DB2 (b2g_built (b8g_now X))) (hm : PRL (b2g_told (b8g_now X)) (b9g_now S) (b9g_keys S) (b9g_lengths S)) (hdr : b2g_draws (b8g_now X) = b9g_now S 7) (htp : (b4g_count (b8g_tape X)).toInt = (b9g_taped S).toInt) (hqc : (b0g_count (b2g_questions (b8g_now X))).toInt = (b9g_now S 10).toInt) {A B : Prop} (ha : A) (hbb : B) (h : A → ∃ k lv : Nat, UPX (b8g_leaves X) (b3g_values (b2g_built (b8g_now X)) 2) (b3g_values (b2g_built (b8g_now X)) 3) k lv ∧ LKV (b3g_values (b2g_told (b8g_now X))) (b3g_mode (b2g_told (b8g_now X))) (b2g_draws (b8g_now X)) (b0g_count (b3g_members (b2g_told (b8g_now X)))).toInt (b0g_count (b1g_owners (b8g_leaves X))).toInt (NB (tn (b8g_leaves X)) (tC (b8g_leaves X)) (tP (b8g_leaves X)) 512) lv k (NB (tn (b8g_leaves X)) (tC (b8g_leaves X)) (tP (b8g_leaves X)) (64 * k)) (EB (tn (b8g_leaves X)) (tC (b8g_leaves X)) (tP (b8g_leaves X)) 512 - EB (tn (b8g_leaves X)) (tC (b8g_leaves X)) (tP (b8g_leaves X)) (64 * k)) (b1g_hashBits (b8g_leaves X)) (b1g_realBits (b8g_leaves X)) (b0g_count (b2g_questions (b8g_now X))).toInt (b4g_count (b8g_tape X)).toInt (CTP (fun i => tC (b8g_leaves X) i = tL (b8g_leaves X) i) (tn (b8g_leaves X))) (SMB (fun i => min (min (tC (b8g_leaves X) i + 1) (tL (b8g_leaves X) i)) 8) (tn (b8g_leaves X))) a r) (h2 : B → ∃ k lv : Nat, UPD S k lv ∧ LKV (fun i => b9g_now S i + FST (nI i)) (b9g_now S 6) (b9g_now S 7) (b9g_now S 8).toInt (b9g_now S 9).toInt (NB (n9 S) (C9 S) (P9 S) 512) lv k (NB (n9 S) (C9 S) (P9 S) (64 * k)) (EB (n9 S) (C9 S) (P9 S) 512 - EB (n9 S) (C9 S) (P9 S) (64 * k)) (HBT (b9g_now S)) (NBT (b9g_now S)) (b9g_now S 10).toInt (b9g_taped S).toInt (CTP (fun i => C9 S i = L9 S i) (n9 S)) (SMB (fun i => min (min (C9 S i + 1) (L9 S i)) 8) (n9 S)) a q) : r.toInt = q.toInt := by
  have ag := AGX_of h9 hx
  obtain ⟨_, _, _, eN, eE, _⟩ := AGX_g ag
  obtain ⟨k, lv, u1, u2⟩ := h ha
  obtain ⟨k', lv', v1, v2⟩ := h2 hbb
  obtain ⟨e1, e2⟩ := UPQ ag hb hd u1 v1
  subst e1
  subst e2
  have c1 : CTP (fun i => tC (b8g_leaves X) i = tL (b8g_leaves X) i) (tn (b8g_leaves X)) = CTP (fun i => C9 S i = L9 S i) (n9 S) := by
    rw [ag.1]
    exact CTP_congr _ (fun i hi => by show tC (b8g_leaves X) i = tL (b8g_leaves X) i ↔ C9 S i = L9 S i; rw [ag.2.1 i hi, ag.2.2.1 i hi])
  have c2 : SMB (fun i => min (min (tC (b8g_leaves X) i + 1) (tL (b8g_leaves X) i)) 8) (tn (b8g_leaves X)) = SMB (fun i => min (min (C9 S i + 1) (L9 S i)) 8) (n9 S) := by
    rw [ag.1]
    exact SMB_congr _ (fun i hi => by show min (min (tC (b8g_leaves X) i + 1) (tL (b8g_leaves X) i)) 8 = min (min (C9 S i + 1) (L9 S i)) 8; rw [ag.2.1 i hi, ag.2.2.1 i hi])
  rw [c1, c2, eN, eN, eE, eE, hx.2.2.2.1, hx.2.2.2.2.2.1, hx.2.2.2.2.2.2.1, htp, hqc, hdr, hm.1.1, hm.2.2.2.1] at u2
  refine LKV_one (fun i hi => ?_) u2 v2
  obtain ⟨w0, w1, w2, w3, w4, w5⟩ := hm.2.2.1
  have hi2 : i = 0 ∨ i = 1 ∨ i = 2 ∨ i = 3 ∨ i = 4 ∨ i = 5 := by omega
  rcases hi2 with rfl | rfl | rfl | rfl | rfl | rfl
  · exact w0
  · exact w1
  · exact w2
  · exact w3
  · exact w4
  · show _ = b9g_now S 5 + FST (nI 5)
    rw [w5, show FST (nI 5) = 0 from rfl, Int32.add_zero]
theorem Q_image {X U : bT8} {Y V : bT9} {a : Int32} (hn : (b0g_count (b2g_questions (b8g_now X))).toInt = (b9g_now Y 10).toInt) (hk : (b0g_count (b2g_questions (b8g_kept X))).toInt = (b9g_images Y 10).toInt) (fl : (b8g_isKept X).toInt = (b9g_hasImage Y).toInt) (c1 : a.toInt ≠ 0 → MEQ (b8g_kept U) (b8g_now X) ∧ b8g_now U = b8g_now X) (c2 : a.toInt = 0 → (b8g_isKept X).toInt = 0 → b8g_now U = b8g_now X ∧ b8g_kept U = b8g_kept X) (c3 : a.toInt = 0 → (b8g_isKept X).toInt ≠ 0 → MEQ (b8g_now U) (b8g_kept X) ∧ b8g_kept U = b8g_kept X) (m1 : a.toInt ≠ 0 ∨ (b9g_hasImage Y).toInt ≠ 0 → IMG Y V a 23 144) (m2 : a.toInt = 0 → (b9g_hasImage Y).toInt = 0 → b9g_now V = b9g_now Y ∧ b9g_keys V = b9g_keys Y ∧ b9g_lengths V = b9g_lengths Y ∧ b9g_images V = b9g_images Y ∧ b9g_keyImages V = b9g_keyImages Y ∧ b9g_lengthImages V = b9g_lengthImages Y) : (b0g_count (b2g_questions (b8g_now U))).toInt = (b9g_now V 10).toInt ∧ (b0g_count (b2g_questions (b8g_kept U))).toInt = (b9g_images V 10).toInt := by
  by_cases ha : a.toInt = 0
  · have a0 : a = 0 := Int32.toInt_inj.mp ha
    by_cases hz : (b8g_isKept X).toInt = 0
    · obtain ⟨p1, p2⟩ := c2 ha hz
      obtain ⟨q1, _, _, q4, _, _⟩ := m2 ha (by rw [← fl]; exact hz)
      rw [p1, p2, q1, q4]
      exact ⟨hn, hk⟩
    · obtain ⟨p1, p2⟩ := c3 ha hz
      obtain ⟨q1, _, _, q4, _⟩ := (m1 (Or.inr (by rw [← fl]; exact hz))).2 a0
      rw [p2, q1, p1.2.2.1.1, q4 10 (by omega)]
      exact ⟨hk, hk⟩
  · have a0 : ¬ a = 0 := fun e => ha (by rw [e]; rfl)
    obtain ⟨p1, p2⟩ := c1 ha
    obtain ⟨q1, _, _, q4, _⟩ := (m1 (Or.inl ha)).1 a0
    rw [p2, q1, p1.2.2.1.1, q4 10 (by omega)]
    exact ⟨hn, hn⟩
/-! rows of bits -/
theorem NST_EST {n : Nat} {C L : Nat → Nat} {P : Nat → Nat → Nat} (G : GRD n C L P) {l i : Nat} (l7 : l ≤ 7) (h : NST n C P l i) : EST n C P l i := by
  refine ⟨h.1, ?_⟩
  by_cases z : C i = l
  · exact Or.inl z
  · refine Or.inr ⟨h.1, by have := h.2.1; omega, ?_⟩
    rcases h.2.2 with y | y
    · exact Or.inl y
    · refine Or.inr (fun q => y ⟨by omega, G.2.2.1 l _ _ (by omega) q.2⟩)
theorem IsN_E {n : Nat} {C L : Nat → Nat} {P : Nat → Nat → Nat} (G : GRD n C L P) {w : Nat} (hw : w < 512) (h : IsN n C P w) : IsE n C P w := NST_EST G (by omega) h
/-- the node of an edge -/
theorem EDG_st {n : Nat} {C L : Nat → Nat} {P : Nat → Nat → Nat} (G : GRD n C L P) {w : Nat} (h : IsE n C P w) : ∃ s : Nat, s ≤ w % 64 ∧ NST n C P (w / 64) s ∧ NB n C P (w + 1) = NB n C P (64 * (w / 64) + s) + 1 ∧ ∀ k, s ≤ k → k ≤ w % 64 → w / 64 ≤ C k ∧ P (w / 64) k = P (w / 64) s := by
  have c := EST_c h
  obtain ⟨s, s1, s2, s3, s4⟩ := GRP_st (P := P) G.1 (l := w / 64) (w % 64) c.1 c.2
  refine ⟨s, s1, s2, ?_, s4⟩
  rw [← s3, show 64 * (w / 64) + w % 64 + 1 = w + 1 by omega]
theorem IsD_N {n : Nat} {C L : Nat → Nat} {P : Nat → Nat → Nat} (G : GRD n C L P) {w : Nat} (h : IsD n C L P w) : IsN n C P w := by
  obtain ⟨s, s1, s2, _, s4⟩ := EDG_st G h.1
  have e := END_first G s4 s1 h.1.1 h.2
  unfold IsN
  rw [e]
  exact s2
theorem IsO_E {ro n : Nat} {C L : Nat → Nat} {P : Nat → Nat → Nat} (G : GRD n C L P) {u w : Nat} (hw : w < 512) (h : IsO ro n C L P u w) : IsE n C P w := by
  rcases h with h | h | h | h | h | h
  · exact h.2.2.1
  · exact h.2.2.1
  · exact h.2.2.1
  · exact h.2.2.1
  · exact h.2.2.1
  · exact IsN_E G hw h.2.2
theorem IsO_rng {ro n : Nat} {C L : Nat → Nat} {P : Nat → Nat → Nat} {u w : Nat} (h : IsO ro n C L P u w) : ro ≤ 5 ∧ (ro ≤ 2 → w < 64 * u) ∧ (3 ≤ ro → 64 * u ≤ w) := by
  rcases h with h | h | h | h | h | h
  · exact ⟨by omega, fun _ => h.2.1, fun z => by omega⟩
  · exact ⟨by omega, fun _ => h.2.1, fun z => by omega⟩
  · exact ⟨by omega, fun _ => h.2.1, fun z => by omega⟩
  · exact ⟨by omega, fun z => by omega, fun _ => h.2.1⟩
  · exact ⟨by omega, fun z => by omega, fun _ => h.2.1⟩
  · exact ⟨by omega, fun z => by omega, fun _ => h.2.1⟩
theorem IsO_L {ro n : Nat} {C L : Nat → Nat} {P : Nat → Nat → Nat} (G : GRD n C L P) {u w : Nat} (hr : ro ≤ 1) (h : IsO ro n C L P u w) : IsB n C L P w := by
  rcases h with h | h | h | h | h | h
  · exact h.2.2
  · refine ⟨h.2.2.1, ?_⟩
    have c := EST_c h.2.2.1
    have a := G.2.1 _ c.1
    have k := h.2.2.2
    omega
  · omega
  · omega
  · omega
  · omega
/-- places of ones go up -/
theorem VO_mono {ro n : Nat} {C L : Nat → Nat} {P : Nat → Nat → Nat} {f : Nat → Int64} (G : GRD n C L P) (hP : ∀ l i, P l i = PX (ub (f i)) l) {u w v : Nat} (hwv : w < v) (hv : v < 512) (hw : IsO ro n C L P u w) (hv2 : IsO ro n C L P u v) : VO ro n C P f u w < VO ro n C P f u v := by
  have ew := IsO_E G (by omega) hw
  have ev := IsO_E G hv hv2
  unfold VO
  by_cases z1 : ro ≤ 1
  · rw [if_pos z1, if_pos z1]
    have bw := IsO_L G z1 hw
    have bv := IsO_L G z1 hv2
    have lw : (nI (w / 64)).toInt = ((w / 64 : Nat) : Int) := nI_toInt (by omega)
    have lv : (nI (v / 64)).toInt = ((v / 64 : Nat) : Int) := nI_toInt (by omega)
    have ow := OCT_rng (f (w % 64)) (i := nI (w / 64)) (by omega) (by omega)
    have ov := OCT_rng (f (v % 64)) (i := nI (v / 64)) (by omega) (by omega)
    have mn := NB_mono (n := n) (C := C) (P := P) (show w + 1 ≤ v + 1 by omega)
    by_cases y : NB n C P (w + 1) < NB n C P (v + 1)
    · omega
    · -- one node
      obtain ⟨s, s1, s2, s3, s4⟩ := EDG_st G ew
      obtain ⟨t, t1, t2, t3, t4⟩ := EDG_st G ev
      have cw := EST_c ew
      have cv := EST_c ev
      have g64 := G.1
      have es : 64 * (w / 64) + s = 64 * (v / 64) + t := CTP_inj (P := IsN n C P) ((IsN_at (by omega)).mpr s2) ((IsN_at (by omega)).mpr t2) (by show NB n C P (64 * (w / 64) + s) = NB n C P (64 * (v / 64) + t); omega)
      have el : w / 64 = v / 64 := by omega
      have et : s = t := by omega
      have bw2 : ¬ L (w % 64) = v / 64 := by rw [← el]; exact bw.2
      have hv3 : EST n C P (v / 64) (v % 64) := ev
      rw [EST_iff G t2 t4 t1 cv.1] at hv3
      have pe := t4 (w % 64) (by omega) (by omega)
      have pv := t4 (v % 64) t1 (Nat.le_refl _)
      have av := G.2.1 _ cv.1
      have lt : P (v / 64 + 1) (w % 64) < P (v / 64 + 1) (v % 64) := by
        have m1 := G.2.2.2.1 (v / 64 + 1) (w % 64) (v % 64 - 1) (by omega) (by omega)
        have m2 := G.2.2.2.1 (v / 64 + 1) (v % 64 - 1) (v % 64) (by omega) cv.1
        rcases hv3 with q | q | q | q
        · exact absurd q bv.2
        · omega
        · exfalso
          have e1 := END_first G (l := v / 64) (s := t) (i := v % 64 - 1) (fun k k1 k2 => t4 k k1 (by omega)) (by omega) (by omega) q
          have e2 : w % 64 = v % 64 - 1 := by omega
          rw [e2] at bw2
          exact bw2 q
        · omega
      rw [hP, hP] at lt
      have p1 := pe.2
      have p2 := pv.2
      rw [← p2, hP, hP] at p1
      have d1 := PX_s (ub (f (w % 64))) (t := v / 64) (by omega)
      have d2 := PX_s (ub (f (v % 64))) (t := v / 64) (by omega)
      have o1 := OCT_n (f (w % 64)) (i := nI (v / 64)) (by omega) (by omega)
      have o2 := OCT_n (f (v % 64)) (i := nI (v / 64)) (by omega) (by omega)
      rw [show (nI (v / 64)).toInt.toNat = v / 64 by omega] at o1 o2
      rw [el, o1, o2]
      omega
  · rw [if_neg z1, if_neg z1]
    by_cases z2 : ro = 2
    · rw [if_pos z2, if_pos z2]
      have dv : IsD n C L P v := by
        rcases hv2 with h | h | h | h | h | h
        · omega
        · omega
        · exact h.2.2
        · omega
        · omega
        · omega
      have nv : NB n C P (v + 1) = NB n C P v + 1 := CTP_y (IsD_N G dv)
      have mn := NB_mono (n := n) (C := C) (P := P) (show w + 1 ≤ v by omega)
      omega
    · rw [if_neg z2, if_neg z2]
      have lt : EB n C P w < EB n C P v := CTP_lt hwv ew
      omega
theorem VO_rng {ro n : Nat} {C L : Nat → Nat} {P : Nat → Nat → Nat} {f : Nat → Int64} (G : GRD n C L P) {u w : Nat} (hu : u ≤ 8) (hw5 : w < 512) (hw : IsO ro n C L P u w) : 0 ≤ VO ro n C P f u w ∧ VO ro n C P f u w < RL ro n C P u := by
  have ew := IsO_E G hw5 hw
  have rg := IsO_rng hw
  obtain ⟨s, s1, s2, s3, s4⟩ := EDG_st G ew
  have nn := NB_nn (n := n) (C := C) (P := P) (64 * (w / 64) + s)
  unfold VO RL
  by_cases z1 : ro ≤ 1
  · rw [if_pos z1, if_pos z1]
    have lw : (nI (w / 64)).toInt = ((w / 64 : Nat) : Int) := nI_toInt (by omega)
    have ow := OCT_rng (f (w % 64)) (i := nI (w / 64)) (by omega) (by omega)
    have wu := rg.2.1 (by omega)
    have mn := NB_mono (n := n) (C := C) (P := P) (show w + 1 ≤ 64 * u by omega)
    omega
  · rw [if_neg z1, if_neg z1]
    by_cases z2 : ro = 2
    · rw [if_pos z2, if_pos z2]
      have wu := rg.2.1 (by omega)
      have mn := NB_mono (n := n) (C := C) (P := P) (show w + 1 ≤ 64 * u by omega)
      omega
    · rw [if_neg z2, if_neg z2]
      have wu := rg.2.2 (by omega)
      have mn := EB_mono (n := n) (C := C) (P := P) wu
      have lt : EB n C P w < EB n C P 512 := CTP_lt hw5 ew
      omega
/-- how many ones are ahead of a place -/
noncomputable def RK (ro n : Nat) (C L : Nat → Nat) (P : Nat → Nat → Nat) (f : Nat → Int64) (u : Nat) (i : Int) : Int := CTP (fun w => IsO ro n C L P u w ∧ VO ro n C P f u w < i) 512
theorem CNT_pre {Q R : Nat → Prop} {m : Int} (h0 : 0 ≤ m) : ∀ N : Nat, (∀ w, w < N → Q w → (R w ↔ CTP Q w < m)) → CTP (fun w => Q w ∧ R w) N = min m (CTP Q N) := by
  intro N
  induction N with
  | zero =>
    intro _
    show (0 : Int) = min m 0
    omega
  | succ N ih =>
    intro h
    have e := ih (fun w hw => h w (by omega))
    by_cases q : Q N
    · have k := h N (by omega) q
      rw [CTP_y q]
      by_cases r : R N
      · rw [CTP_y (P := fun w => Q w ∧ R w) ⟨q, r⟩, e]
        have := k.mp r
        omega
      · rw [CTP_n (P := fun w => Q w ∧ R w) (fun z => r z.2), e]
        have : ¬ CTP Q N < m := fun z => r (k.mpr z)
        omega
    · rw [CTP_n q, CTP_n (P := fun w => Q w ∧ R w) (fun z => q z.1), e]
theorem RK_all {ro n : Nat} {C L : Nat → Nat} {P : Nat → Nat → Nat} {f : Nat → Int64} (G : GRD n C L P) {u : Nat} (hu : u ≤ 8) {i : Int} (h : RL ro n C P u ≤ i) : RK ro n C L P f u i = OB ro n C L P u 512 := by
  refine CTP_congr 512 (fun w hw => ⟨fun z => z.1, fun z => ⟨z, ?_⟩⟩)
  have := (VO_rng (f := f) G hu hw z).2
  omega
def SEL (ro n : Nat) (C L : Nat → Nat) (P : Nat → Nat → Nat) (f : Nat → Int64) (u : Nat) (k r : Int) : Prop := (∃ w : Nat, w < 512 ∧ IsO ro n C L P u w ∧ OB ro n C L P u w = k ∧ r = VO ro n C P f u w) ∨ (r = -1 ∧ (k < 0 ∨ OB ro n C L P u 512 ≤ k))
theorem SEL_one {ro n : Nat} {C L : Nat → Nat} {P : Nat → Nat → Nat} {f : Nat → Int64} {u : Nat} {k r q : Int} (h : SEL ro n C L P f u k r) (g : SEL ro n C L P f u k q) : r = q := by
  have r0 : ∀ w, 0 ≤ OB ro n C L P u w := fun w => (CTP_rng _ _).1
  rcases h with ⟨w, h1, h2, h3, h4⟩ | ⟨h1, h2⟩
  · have lt : OB ro n C L P u w < OB ro n C L P u 512 := CTP_lt h1 h2
    have w0 := r0 w
    rcases g with ⟨v, g1, g2, g3, g4⟩ | ⟨g1, g2⟩
    · have e : w = v := CTP_inj (P := IsO ro n C L P u) h2 g2 (by show OB ro n C L P u w = OB ro n C L P u v; omega)
      rw [h4, g4, e]
    · omega
  · rcases g with ⟨v, g1, g2, g3, g4⟩ | ⟨g1, g2⟩
    · have lt : OB ro n C L P u v < OB ro n C L P u 512 := CTP_lt g1 g2
      have v0 := r0 v
      omega
    · omega
/-! the object's ones -/
theorem fx6_oneOf {T : bT6} {n : Nat} {C L : Nat → Nat} {P : Nat → Nat → Nat} {f : Nat → Int64} (G : GRD n C L P) (t : TR6 T n C L P f) {u ro : Nat} (hu : u ≤ 8) (his : (b6g_itemStart T).toInt = EB n C P (64 * u)) {a1 a2 : Int32} {w y : Nat} {Q : Int32 → Prop} (h1 : a1.toInt = (ro : Int)) (hro : ro ≤ 5) (hw : w < 512) (hE : IsE n C P w) (hy : (y : Int) = EB n C P w) (h2 : a2.toInt = (y : Int)) (hr1 : ro ≤ 2 → w < 64 * u) (hr2 : 3 ≤ ro → 64 * u ≤ w) (hq : ∀ r : Int32, (IsO ro n C L P u w → r.toInt = VO ro n C P f u w) → (¬ IsO ro n C L P u w → r = -1) → Q r) : wp_X6_oneOf T a1 a2 Q := by
  obtain ⟨e1, e2, e3, e4, e5⟩ := t.2.2.2.2.2.2.2 w y hw hE hy
  have el := EB_le G (w := w) (by omega)
  have eu := EB_le G (w := 64 * u) (by omega)
  have n5 := NB_le G (l := 7) (i := 64) (by omega) (by omega)
  have nb5 : NB n C P (64 * 7 + 64) = NB n C P 512 := rfl
  have nm := NB_mono (n := n) (C := C) (P := P) (show w + 1 ≤ 512 by omega)
  have nn := NB_nn (n := n) (C := C) (P := P) (w + 1)
  have y5 : y < 296 := by omega
  have oe := OCV_end (f := f) (L := L) hw
  have sub : 3 ≤ ro → (a2 - b6g_itemStart T).toInt = EB n C P w - EB n C P (64 * u) := by
    intro z
    have mn := EB_mono (n := n) (C := C) (P := P) (hr2 z)
    rw [pt_sub (by omega) (by omega), h2, his, hy]
  have ocv : ¬ L (w % 64) = w / 64 → b6g_edgeOctets T y = OCT (f (w % 64)) (nI (w / 64)) := by
    intro z
    rw [e2]
    unfold OCV
    rw [if_neg z]
  have lw : (nI (w / 64)).toInt = ((w / 64 : Nat) : Int) := nI_toInt (by omega)
  have ow := OCT_rng (f (w % 64)) (i := nI (w / 64)) (by omega) (by omega)
  have pos : ¬ L (w % 64) = w / 64 → ((256 : Int32) * b6g_edgeNodes T y + b6g_edgeOctets T y).toInt = 256 * (NB n C P (w + 1) - 1) + (OCT (f (w % 64)) (nI (w / 64))).toInt := by
    intro z
    have m : ((256 : Int32) * b6g_edgeNodes T y).toInt = 256 * (NB n C P (w + 1) - 1) := by rw [pt_mul (by rw [e1]; show _ ≤ 256 * _; omega) (by rw [e1]; show 256 * _ < _; omega), e1]; rfl
    rw [ocv z, pt_add (by rw [m]; omega) (by rw [m]; omega), m]
  have c := EST_c hE
  have ac := G.2.1 _ c.1
  have ne : ∀ {m : Int32}, a1 = m → (ro : Int) = m.toInt := fun h => by rw [← h1, h]
  unfold wp_X6_oneOf
  refine fx_atN (by decide) h2 y5 ⟨fun d => ?_, fun d => ?_, fun d => ?_, fun d => ?_, fun d => ?_, fun d => ?_⟩
  · have r5 : ro = 5 := by omega
    have hw2 := hr2 (by omega)
    obtain ⟨s, s1, s2, s3, s4⟩ := EDG_st G hE
    have l7 : w / 64 ≤ 7 := by omega
    have nn2 := NB_nn (n := n) (C := C) (P := P) (64 * (w / 64) + s)
    obtain ⟨x, ex⟩ : ∃ x : Nat, (x : Int) = NB n C P (64 * (w / 64) + s) := ⟨(NB n C P (64 * (w / 64) + s)).toNat, by omega⟩
    have hsI : IsN n C P (64 * (w / 64) + s) := (IsN_at (by omega)).mpr s2
    have es := t.2.2.2.2.1 (64 * (w / 64) + s) x (by omega) hsI ex
    have key : EB n C P w = EB n C P (64 * (w / 64) + s) ↔ IsN n C P w := by
      constructor
      · intro z
        have e : w = 64 * (w / 64) + s := CTP_inj (P := IsE n C P) hE (IsN_E G (by omega) hsI) z
        rw [e]
        exact hsI
      · intro z
        have k : NB n C P (w + 1) = NB n C P w + 1 := CTP_y z
        have e : w = 64 * (w / 64) + s := CTP_inj (P := IsN n C P) z hsI (by show NB n C P w = NB n C P (64 * (w / 64) + s); omega)
        rw [← e]
    refine fx_atN (by decide) (m := x) (by rw [e1]; omega) (by omega) ⟨fun d2 => hq _ (fun z => ?_) (fun _ => rfl), fun d2 => hq _ (fun z => ?_) (fun z => ?_)⟩
    · exfalso
      rcases z with z | z | z | z | z | z
      · omega
      · omega
      · omega
      · omega
      · omega
      · have := key.mpr z.2.2
        exact d2 (Int32.toInt_inj.mp (by omega))
    · unfold VO
      rw [if_neg (by omega), if_neg (by omega)]
      exact sub (by omega)
    · exfalso
      have d3 : a2.toInt = (b6g_edgeStarts T x).toInt := by rw [← d2]
      exact z (Or.inr (Or.inr (Or.inr (Or.inr (Or.inr ⟨r5, hw2, key.mp (by omega)⟩)))))
  · have r0 : ro = 0 := by have := ne d; rw [pl_0] at this; omega
    have hw2 := hr1 (by omega)
    refine fx6_isEnd t hw hE hy y5 h2 (fun r hr => ⟨fun d2 => fx_atN (by decide) h2 y5 (hq _ (fun _ => ?_) (fun z => ?_)), fun d2 => hq _ (fun z => ?_) (fun _ => rfl)⟩)
    · unfold VO
      rw [if_pos (by omega)]
      exact pos (hr.mp d2)
    · exact absurd (Or.inl ⟨r0, hw2, hE, hr.mp d2⟩) z
    · exfalso
      have b := IsO_L G (by omega) z
      exact d2 (hr.mpr b.2)
  · have r0 : ro = 1 := by have := ne d; rw [pl_1] at this; omega
    have hw2 := hr1 (by omega)
    refine fx6_hasChild t hw hE hy y5 h2 (fun r hr => ⟨fun d2 => hq _ (fun z => ?_) (fun _ => rfl), fun d2 => fx_atN (by decide) h2 y5 (hq _ (fun _ => ?_) (fun z => ?_))⟩)
    · exfalso
      rcases z with z | z | z | z | z | z
      · omega
      · exact z.2.2.2 (hr.mp d2)
      · omega
      · omega
      · omega
      · omega
    · unfold VO
      rw [if_pos (by omega)]
      have nc : ¬ C (w % 64) = w / 64 := fun z => d2 (hr.mpr z)
      exact pos (by omega)
    · exact absurd (Or.inr (Or.inl ⟨r0, hw2, hE, fun y => d2 (hr.mpr y)⟩)) z
  · have r0 : ro = 2 := by have := ne d; rw [pl_2] at this; omega
    have hw2 := hr1 (by omega)
    refine fx6_isEnd t hw hE hy y5 h2 (fun r hr => ⟨fun d2 => hq _ (fun z => ?_) (fun _ => rfl), fun d2 => hq _ (fun _ => ?_) (fun z => ?_)⟩)
    · exfalso
      rcases z with z | z | z | z | z | z
      · omega
      · omega
      · exact hr.mp d2 z.2.2.2
      · omega
      · omega
      · omega
    · unfold VO
      rw [if_neg (by omega), if_pos r0]
      exact e1
    · exact absurd (Or.inr (Or.inr (Or.inl ⟨r0, hw2, hE, Classical.byContradiction (fun y => d2 (hr.mpr y))⟩))) z
  · have r0 : ro = 3 := by have := ne d; rw [pl_3] at this; omega
    have hw2 := hr2 (by omega)
    refine fx6_isEnd t hw hE hy y5 h2 (fun r hr => ⟨fun d2 => hq _ (fun z => ?_) (fun _ => rfl), fun d2 => hq _ (fun _ => ?_) (fun z => ?_)⟩)
    · exfalso
      rcases z with z | z | z | z | z | z
      · omega
      · omega
      · omega
      · exact hr.mp d2 z.2.2.2
      · omega
      · omega
    · unfold VO
      rw [if_neg (by omega), if_neg (by omega)]
      exact sub (by omega)
    · exact absurd (Or.inr (Or.inr (Or.inr (Or.inl ⟨r0, hw2, hE, Classical.byContradiction (fun y => d2 (hr.mpr y))⟩)))) z
  · have r0 : ro = 4 := by have := ne d; rw [pl_4] at this; omega
    have hw2 := hr2 (by omega)
    refine fx6_hasChild t hw hE hy y5 h2 (fun r hr => ⟨fun d2 => hq _ (fun z => ?_) (fun _ => rfl), fun d2 => hq _ (fun _ => ?_) (fun z => ?_)⟩)
    · exfalso
      rcases z with z | z | z | z | z | z
      · omega
      · omega
      · omega
      · omega
      · exact z.2.2.2 (hr.mp d2)
      · omega
    · unfold VO
      rw [if_neg (by omega), if_neg (by omega)]
      exact sub (by omega)
    · exact absurd (Or.inr (Or.inr (Or.inr (Or.inr (Or.inl ⟨r0, hw2, hE, fun y => d2 (hr.mpr y)⟩))))) z
theorem fx6_edgesOf {T : bT6} {n : Nat} {C L : Nat → Nat} {P : Nat → Nat → Nat} {f : Nat → Int64} (G : GRD n C L P) (t : TR6 T n C L P f) {u ro : Nat} (hu : u ≤ 8) (his : (b6g_itemStart T).toInt = EB n C P (64 * u)) {a1 : Int32} {Q Q2 : Int32 → Prop} (h1 : a1.toInt = (ro : Int)) (hro : ro ≤ 5) (hq : ∀ r : Int32, r.toInt = EB n C P (if ro ≤ 2 then 64 * u else 512) - 1 → Q r) (hq2 : ∀ r : Int32, r.toInt = EB n C P (if ro ≤ 2 then 0 else 64 * u) → Q2 r) : wp_X6_lastEdgeOf T a1 Q ∧ wp_X6_firstEdgeOf T a1 Q2 := by
  have eu := EB_le G (w := 64 * u) (by omega)
  have e5 := EB_le G (w := 512) (by omega)
  have hed := t.2.2.2.2.2.2.1
  have i1 : (b6g_itemStart T - 1).toInt = EB n C P (64 * u) - 1 := by rw [pt_sub (by rw [pl_1]; omega) (by rw [pl_1]; omega), pl_1, his]
  have i2 : (b6g_edges T - 1).toInt = EB n C P 512 - 1 := by rw [pt_sub (by rw [pl_1]; omega) (by rw [pl_1]; omega), pl_1, hed]
  have ne : ∀ {m : Int32}, a1 = m → (ro : Int) = m.toInt := fun h => by rw [← h1, h]
  have nn : ∀ {m : Int32}, ¬ a1 = m → ¬ (ro : Int) = m.toInt := fun h z => h (Int32.toInt_inj.mp (by omega))
  have is : ∀ R : Int32 → Prop, (∀ r : Int32, (r = 0 ↔ ro ≤ 2) → R r) → wp_X6_isOfItems a1 R := by
    intro R hR
    unfold wp_X6_isOfItems wp_X6_isOfItems_15
    refine ⟨fun c => ⟨rfl, hR _ ⟨fun z => absurd z (by decide), fun z => ?_⟩⟩, fun c => ⟨fun c2 => ⟨rfl, hR _ ⟨fun z => absurd z (by decide), fun z => ?_⟩⟩, fun c2 => ⟨fun c3 => ⟨rfl, hR _ ⟨fun _ => ?_, fun _ => rfl⟩⟩, fun c3 => ⟨rfl, hR _ ⟨fun z => absurd z (by decide), fun z => ?_⟩⟩⟩⟩⟩
    · have := ne c
      rw [pl_3] at this
      omega
    · have := ne c2
      rw [pl_4] at this
      omega
    · have k1 := nn c
      have k2 := nn c2
      have k3 := nn c3
      rw [pl_3] at k1
      rw [pl_4] at k2
      rw [pl_5] at k3
      omega
    · have := ne c3
      rw [pl_5] at this
      omega
  unfold wp_X6_lastEdgeOf wp_X6_firstEdgeOf
  refine ⟨is _ (fun r hr => ⟨fun c => hq _ ?_, fun c => hq _ ?_⟩), is _ (fun r hr => ⟨fun c => hq2 _ ?_, fun c => hq2 _ ?_⟩)⟩
  · rw [if_pos (hr.mp c)]
    exact i1
  · rw [if_neg (fun z => c (hr.mpr z))]
    exact i2
  · rw [if_pos (hr.mp c)]
    rfl
  · rw [if_neg (fun z => c (hr.mpr z))]
    exact his
theorem fx6_onesAhead {T : bT6} {n : Nat} {C L : Nat → Nat} {P : Nat → Nat → Nat} {f : Nat → Int64} (G : GRD n C L P) (t : TR6 T n C L P f) {u ro : Nat} (hu : u ≤ 8) (his : (b6g_itemStart T).toInt = EB n C P (64 * u)) {a1 a2 : Int32} {Q : Int32 → Prop} (h1 : a1.toInt = (ro : Int)) (hro : ro ≤ 5) (hq : ∀ r : Int32, r.toInt = RK ro n C L P f u a2.toInt → Q r) : wp_X6_onesAhead T a1 a2 Q := by
  have eu := EB_le G (w := 64 * u) (by omega)
  have e5 := EB_le G (w := 512) (by omega)
  obtain ⟨A, hA⟩ : ∃ A : Nat, A = if ro ≤ 2 then 0 else 64 * u := ⟨_, rfl⟩
  obtain ⟨B', hB'⟩ : ∃ B' : Nat, B' = if ro ≤ 2 then 64 * u else 512 := ⟨_, rfl⟩
  have AB : A ≤ B' ∧ B' ≤ 512 ∧ (ro ≤ 2 → B' = 64 * u) ∧ (3 ≤ ro → A = 64 * u) := by
    by_cases z : ro ≤ 2
    · rw [if_pos z] at hA hB'
      omega
    · rw [if_neg z] at hA hB'
      omega
  have fr : ∀ w, w < 512 → IsO ro n C L P u w → A ≤ w ∧ w < B' := by
    intro w hw h
    have r := IsO_rng h
    by_cases z : ro ≤ 2
    · have := r.2.1 z
      rw [if_pos z] at hA hB'
      omega
    · have := r.2.2 (by omega)
      rw [if_neg z] at hA hB'
      omega
  unfold wp_X6_onesAhead
  refine (fx6_edgesOf (Q2 := fun _ => True) G t hu his h1 hro (fun r3 hr3 => ?_) (fun _ _ => trivial)).1
  refine (fx6_edgesOf (Q := fun _ => True) G t hu his h1 hro (fun _ _ => trivial) (fun r5 hr5 => ?_)).2
  rw [← hB'] at hr3
  rw [← hA] at hr5
  have ea := EB_le G (w := A) (by omega)
  have eb := EB_le G (w := B') (by omega)
  have mab := EB_mono (n := n) (C := C) (P := P) AB.1
  unfold wp_X6_onesAhead_16
  refine ⟨fun k x1 x2 x3 x4 x5 => ∃ i p : Nat, a1 = x1 ∧ a2 = x2 ∧ r3 = x4 ∧ x5.toInt = (i : Int) ∧ A ≤ p ∧ p ≤ B' ∧ (i : Int) = EB n C P p ∧ x3.toInt = CTP (fun w => IsO ro n C L P u w ∧ VO ro n C P f u w < a2.toInt) p ∧ k = 300 - i, ⟨_, (EB n C P A).toNat, A, rfl, rfl, rfl, by omega, Nat.le_refl _, AB.1, by omega, ?_, rfl⟩, ?_⟩
  · rw [pl_0]
    exact (CTP_st (P := fun w => IsO ro n C L P u w ∧ VO ro n C P f u w < a2.toInt) (a := 0) A (by omega) (fun w _ q r => by have := (fr w (by omega) r.1).1; omega)).symm
  rintro k x1 x2 x3 x4 x5 ⟨i, p, rfl, rfl, rfl, e5', hap, hpb, hi, hv, hk⟩
  have cr := CTP_rng (fun w => IsO ro n C L P u w ∧ VO ro n C P f u w < a2.toInt) p
  suffices H : ∀ B : Int32 → Int32 → Int32 → Int32 → Int32 → Prop, (∀ (v : Int32) (p' : Nat), A ≤ p' → p' ≤ B' → ((i + 1 : Nat) : Int) = EB n C P p' → v.toInt = CTP (fun w => IsO ro n C L P u w ∧ VO ro n C P f u w < a2.toInt) p' → (i : Int) < EB n C P B' → B a1 a2 v r3 (x5 + 1)) → wp_X6_onesAhead_16b T a1 a2 x3 r3 x5 Q B from H _ (fun v p' t1 t2 t3 t4 hlt => ⟨300 - (i + 1), by omega, i + 1, p', rfl, rfl, rfl, by rw [pt_add (by rw [pl_1]; omega) (by rw [pl_1]; omega), pl_1, e5']; omega, t1, t2, t3, t4, rfl⟩)
  intro B hB
  unfold wp_X6_onesAhead_16b
  refine ⟨fun c => hq x3 ?_, fun c => ?_⟩
  · simp only [pn] at c
    have mp := EB_mono (n := n) (C := C) (P := P) hpb
    have k2 : CTP (fun w => IsO ro n C L P u w ∧ VO ro n C P f u w < a2.toInt) 512 = CTP (fun w => IsO ro n C L P u w ∧ VO ro n C P f u w < a2.toInt) p := by
      refine CTP_st 512 (by omega) (fun w w1 w2 w3 => ?_)
      have := fr w w2 w3.1
      have lt : EB n C P w < EB n C P B' := CTP_lt this.2 (IsO_E G w2 w3.1)
      have m2 := EB_mono (n := n) (C := C) (P := P) w1
      omega
    rw [hv]
    exact k2.symm
  simp only [pn] at c
  have hlt : (i : Int) < EB n C P B' := by omega
  obtain ⟨w, w1, w2, w3⟩ := CTP_inv (P := IsE n C P) (e := (i : Int)) (by omega) B' hlt
  have w3' : EB n C P w = (i : Int) := w3
  have aw : A ≤ w := by
    apply Classical.byContradiction
    intro z
    have lt : EB n C P w < EB n C P A := CTP_lt (by omega) w2
    have mp := EB_mono (n := n) (C := C) (P := P) hap
    omega
  have cw : CTP (fun w => IsO ro n C L P u w ∧ VO ro n C P f u w < a2.toInt) w = CTP (fun w => IsO ro n C L P u w ∧ VO ro n C P f u w < a2.toInt) p := by
    by_cases z : p ≤ w
    · refine CTP_st w z (fun v v1 v2 v3 => ?_)
      have lt : EB n C P v < EB n C P w := CTP_lt v2 (IsO_E G (by omega) v3.1)
      have m2 := EB_mono (n := n) (C := C) (P := P) v1
      omega
    · refine (CTP_st p (by omega) (fun v v1 v2 v3 => ?_)).symm
      have lt : EB n C P v < EB n C P p := CTP_lt v2 (IsO_E G (by omega) v3.1)
      have m2 := EB_mono (n := n) (C := C) (P := P) v1
      omega
  have nx : EB n C P (w + 1) = EB n C P w + 1 := CTP_y w2
  have no : ¬ (IsO ro n C L P u w ∧ VO ro n C P f u w < a2.toInt) → wp_X6_onesAhead_49 T a1 a2 r3 x5 x3 Q B := by
    intro z
    unfold wp_X6_onesAhead_49 wp_X6_onesAhead_50
    refine hB _ (w + 1) (by omega) (by omega) (by omega) ?_ hlt
    rw [CTP_n (P := fun w => IsO ro n C L P u w ∧ VO ro n C P f u w < a2.toInt) z, cw, ← hv, pt_add (by rw [pl_0]; omega) (by rw [pl_0]; omega), pl_0]
    omega
  refine fx6_oneOf G t hu his h1 hro (by omega) w2 w3'.symm e5' (fun z => ?_) (fun z => ?_) (fun r1 g1 g2 => ⟨fun d => no (fun z => ?_), fun d => ⟨fun d2 => no (fun z => ?_), fun d2 => ?_⟩⟩)
  · have := AB.2.2.1 z
    omega
  · have := AB.2.2.2 z
    omega
  · have v := g1 z.1
    have v0 := (VO_rng (f := f) G hu (by omega) z.1).1
    rw [d, pl_m1] at v
    omega
  · simp only [pn] at d2
    have v := g1 z.1
    have := z.2
    omega
  · have io : IsO ro n C L P u w := Classical.byContradiction (fun z => d (g2 z))
    simp only [pn] at d2
    unfold wp_X6_onesAhead_50
    refine hB _ (w + 1) (by omega) (by omega) (by omega) ?_ hlt
    have v := g1 io
    rw [CTP_y (P := fun w => IsO ro n C L P u w ∧ VO ro n C P f u w < a2.toInt) ⟨io, by omega⟩, cw, ← hv, pt_add (by rw [pl_1]; omega) (by rw [pl_1]; omega), pl_1]
theorem fx6_placeOfOne {T : bT6} {n : Nat} {C L : Nat → Nat} {P : Nat → Nat → Nat} {f : Nat → Int64} (G : GRD n C L P) (t : TR6 T n C L P f) {u ro : Nat} (hu : u ≤ 8) (his : (b6g_itemStart T).toInt = EB n C P (64 * u)) {a1 a2 : Int32} {Q : Int32 → Prop} (h1 : a1.toInt = (ro : Int)) (hro : ro ≤ 5) (hq : ∀ r : Int32, SEL ro n C L P f u a2.toInt r.toInt → Q r) : wp_X6_placeOfOne T a1 a2 Q := by
  have eu := EB_le G (w := 64 * u) (by omega)
  have e5 := EB_le G (w := 512) (by omega)
  obtain ⟨A, hA⟩ : ∃ A : Nat, A = if ro ≤ 2 then 0 else 64 * u := ⟨_, rfl⟩
  obtain ⟨B', hB'⟩ : ∃ B' : Nat, B' = if ro ≤ 2 then 64 * u else 512 := ⟨_, rfl⟩
  have AB : A ≤ B' ∧ B' ≤ 512 ∧ (ro ≤ 2 → B' = 64 * u) ∧ (3 ≤ ro → A = 64 * u) := by
    by_cases z : ro ≤ 2
    · rw [if_pos z] at hA hB'
      omega
    · rw [if_neg z] at hA hB'
      omega
  have fr : ∀ w, w < 512 → IsO ro n C L P u w → A ≤ w ∧ w < B' := by
    intro w hw h
    have r := IsO_rng h
    by_cases z : ro ≤ 2
    · have := r.2.1 z
      rw [if_pos z] at hA hB'
      omega
    · have := r.2.2 (by omega)
      rw [if_neg z] at hA hB'
      omega
  unfold wp_X6_placeOfOne
  refine (fx6_edgesOf (Q2 := fun _ => True) G t hu his h1 hro (fun r3 hr3 => ?_) (fun _ _ => trivial)).1
  refine (fx6_edgesOf (Q := fun _ => True) G t hu his h1 hro (fun _ _ => trivial) (fun r5 hr5 => ?_)).2
  rw [← hB'] at hr3
  rw [← hA] at hr5
  have ea := EB_le G (w := A) (by omega)
  have eb := EB_le G (w := B') (by omega)
  have mab := EB_mono (n := n) (C := C) (P := P) AB.1
  unfold wp_X6_placeOfOne_16
  refine ⟨fun k x1 x2 x3 x4 x5 => ∃ i p : Nat, a1 = x1 ∧ a2 = x2 ∧ r3 = x4 ∧ x5.toInt = (i : Int) ∧ A ≤ p ∧ p ≤ B' ∧ (i : Int) = EB n C P p ∧ x3.toInt = OB ro n C L P u p ∧ (0 ≤ a2.toInt → x3.toInt ≤ a2.toInt) ∧ k = 300 - i, ⟨_, (EB n C P A).toNat, A, rfl, rfl, rfl, by omega, Nat.le_refl _, AB.1, by omega, ?_, fun z => by rw [pl_0]; exact z, rfl⟩, ?_⟩
  · rw [pl_0]
    exact (CTP_st (P := IsO ro n C L P u) (a := 0) A (by omega) (fun w _ q r => by have := (fr w (by omega) r).1; omega)).symm
  rintro k x1 x2 x3 x4 x5 ⟨i, p, rfl, rfl, rfl, e5', hap, hpb, hi, hv, hle, hk⟩
  have cr : 0 ≤ OB ro n C L P u p ∧ OB ro n C L P u p ≤ (p : Int) := CTP_rng (IsO ro n C L P u) p
  suffices H : ∀ B : Int32 → Int32 → Int32 → Int32 → Int32 → Prop, (∀ (v : Int32) (p' : Nat), A ≤ p' → p' ≤ B' → ((i + 1 : Nat) : Int) = EB n C P p' → v.toInt = OB ro n C L P u p' → (0 ≤ a2.toInt → v.toInt ≤ a2.toInt) → (i : Int) < EB n C P B' → B a1 a2 v r3 (x5 + 1)) → wp_X6_placeOfOne_16b T a1 a2 x3 r3 x5 Q B from H _ (fun v p' t1 t2 t3 t4 t5 hlt => ⟨300 - (i + 1), by omega, i + 1, p', rfl, rfl, rfl, by rw [pt_add (by rw [pl_1]; omega) (by rw [pl_1]; omega), pl_1, e5']; omega, t1, t2, t3, t4, t5, rfl⟩)
  intro B hB
  unfold wp_X6_placeOfOne_16b
  refine ⟨fun c => hq _ (Or.inr ⟨rfl, ?_⟩), fun c => ?_⟩
  · simp only [pn] at c
    have mp := EB_mono (n := n) (C := C) (P := P) hpb
    have k2 : OB ro n C L P u 512 = OB ro n C L P u p := by
      refine CTP_st 512 (by omega) (fun w w1 w2 w3 => ?_)
      have := fr w w2 w3
      have lt : EB n C P w < EB n C P B' := CTP_lt this.2 (IsO_E G w2 w3)
      have m2 := EB_mono (n := n) (C := C) (P := P) w1
      omega
    rw [k2]
    by_cases z : a2.toInt < 0
    · exact Or.inl z
    · have := hle (by omega)
      exact Or.inr (by omega)
  simp only [pn] at c
  have hlt : (i : Int) < EB n C P B' := by omega
  obtain ⟨w, w1, w2, w3⟩ := CTP_inv (P := IsE n C P) (e := (i : Int)) (by omega) B' hlt
  have w3' : EB n C P w = (i : Int) := w3
  have aw : A ≤ w := by
    apply Classical.byContradiction
    intro z
    have lt : EB n C P w < EB n C P A := CTP_lt (by omega) w2
    have mp := EB_mono (n := n) (C := C) (P := P) hap
    omega
  have cw : OB ro n C L P u w = OB ro n C L P u p := by
    by_cases z : p ≤ w
    · refine CTP_st w z (fun v v1 v2 v3 => ?_)
      have lt : EB n C P v < EB n C P w := CTP_lt v2 (IsO_E G (by omega) v3)
      have m2 := EB_mono (n := n) (C := C) (P := P) v1
      omega
    · refine (CTP_st p (by omega) (fun v v1 v2 v3 => ?_)).symm
      have lt : EB n C P v < EB n C P p := CTP_lt v2 (IsO_E G (by omega) v3)
      have m2 := EB_mono (n := n) (C := C) (P := P) v1
      omega
  have nx : EB n C P (w + 1) = EB n C P w + 1 := CTP_y w2
  refine fx6_oneOf G t hu his h1 hro (by omega) w2 w3'.symm e5' (fun z => ?_) (fun z => ?_) (fun r1 g1 g2 => ⟨fun d => ?_, fun d => ⟨fun d2 => ?_, fun d2 => hq _ ?_⟩⟩)
  · have := AB.2.2.1 z
    omega
  · have := AB.2.2.2 z
    omega
  · have ni : ¬ IsO ro n C L P u w := by
      intro z
      have v := g1 z
      have v0 := (VO_rng (f := f) G hu (by omega) z).1
      rw [d, pl_m1] at v
      omega
    unfold wp_X6_placeOfOne_49
    have k3 : OB ro n C L P u (w + 1) = OB ro n C L P u w := CTP_n ni
    exact hB _ (w + 1) (by omega) (by omega) (by omega) (by rw [k3, cw]; exact hv) hle hlt
  · have io : IsO ro n C L P u w := Classical.byContradiction (fun z => d (g2 z))
    unfold wp_X6_placeOfOne_49
    have k3 : OB ro n C L P u (w + 1) = OB ro n C L P u w + 1 := CTP_y io
    have e31 : (x3 + 1).toInt = x3.toInt + 1 := by rw [pt_add (by rw [pl_1]; omega) (by rw [pl_1]; omega), pl_1]
    have ned : ¬ x3.toInt = a2.toInt := fun z => d2 (Int32.toInt_inj.mp z)
    exact hB _ (w + 1) (by omega) (by omega) (by omega) (by rw [k3, cw, e31, hv]) (fun z => by have := hle z; omega) hlt
  · have io : IsO ro n C L P u w := Classical.byContradiction (fun z => d (g2 z))
    refine Or.inl ⟨w, by omega, io, ?_, g1 io⟩
    rw [cw, ← hv, d2]
theorem fx6_rowLength {T : bT6} {n : Nat} {C L : Nat → Nat} {P : Nat → Nat → Nat} {f : Nat → Int64} (G : GRD n C L P) (t : TR6 T n C L P f) {u ro : Nat} (hu : u ≤ 8) (hun : (b6g_upperNodes T).toInt = NB n C P (64 * u)) (his : (b6g_itemStart T).toInt = EB n C P (64 * u)) {a1 : Int32} {Q : Int32 → Prop} (h1 : a1.toInt = (ro : Int)) (hro : ro ≤ 5) (hq : ∀ r : Int32, r.toInt = RL ro n C P u → Q r) : wp_X6_rowLength T a1 Q := by
  have eu := EB_le G (w := 64 * u) (by omega)
  have e5 := EB_le G (w := 512) (by omega)
  have n5 := NB_le G (l := 7) (i := 64) (by omega) (by omega)
  have nb5 : NB n C P (64 * 7 + 64) = NB n C P 512 := rfl
  have nm := NB_mono (n := n) (C := C) (P := P) (show 64 * u ≤ 512 by omega)
  have nn := NB_nn (n := n) (C := C) (P := P) (64 * u)
  have hed := t.2.2.2.2.2.2.1
  have ne : ∀ {m : Int32}, a1 = m → (ro : Int) = m.toInt := fun h => by rw [← h1, h]
  have n2 : ∀ {m : Int32}, ¬ a1 = m → ¬ (ro : Int) = m.toInt := fun h z => h (Int32.toInt_inj.mp (by omega))
  have m : ((256 : Int32) * b6g_upperNodes T).toInt = 256 * NB n C P (64 * u) := by rw [pt_mul (by rw [hun]; show _ ≤ 256 * _; omega) (by rw [hun]; show 256 * _ < _; omega), hun]; rfl
  unfold wp_X6_rowLength wp_X6_rowLength_9 wp_X6_items
  refine ⟨fun c => hq _ ?_, fun c => ⟨fun c1 => ⟨fun c2 => hq _ ?_, fun c2 => hq _ ?_⟩, fun c1 => hq _ ?_⟩⟩
  · have := ne c
    rw [pl_0] at this
    unfold RL
    rw [if_pos (by omega)]
    exact m
  · have k0 := n2 c
    have k1 := n2 c1
    have k2 := n2 c2
    rw [pl_0] at k0
    rw [pl_1] at k1
    rw [pl_2] at k2
    unfold RL
    rw [if_neg (by omega), if_neg (by omega), pt_sub (by omega) (by omega), hed, his]
  · have := ne c2
    rw [pl_2] at this
    unfold RL
    rw [if_neg (by omega), if_pos (by omega)]
    exact hun
  · have := ne c1
    rw [pl_1] at this
    unfold RL
    rw [if_pos (by omega)]
    exact m
/-! the reference's ones -/
def OIV (ro n : Nat) (C L : Nat → Nat) (P : Nat → Nat → Nat) (f : Nat → Int64) (u : Nat) (om : Int32) (on : Nat → Int32) (p : Nat) : Prop := om.toInt = OB ro n C L P u p ∧ ∀ w : Nat, w < p → IsO ro n C L P u w → (on (OB ro n C L P u w).toNat).toInt = VO ro n C P f u w
theorem OIV_skip {ro n : Nat} {C L : Nat → Nat} {P : Nat → Nat → Nat} {f : Nat → Int64} {u : Nat} {om : Int32} {on : Nat → Int32} {p p2 : Nat} (h : OIV ro n C L P f u om on p) (hp : p ≤ p2) (hn : ∀ w, p ≤ w → w < p2 → ¬ IsO ro n C L P u w) : OIV ro n C L P f u om on p2 := by
  refine ⟨?_, fun w w1 w2 => ?_⟩
  · rw [h.1]
    exact (CTP_st p2 hp hn).symm
  · by_cases z : w < p
    · exact h.2 w z w2
    · exact absurd w2 (hn w (by omega) w1)
theorem OIV_add {ro n : Nat} {C L : Nat → Nat} {P : Nat → Nat → Nat} {f : Nat → Int64} {u : Nat} {om om2 v : Int32} {on on2 : Nat → Int32} {p : Nat} (h : OIV ro n C L P f u om on p) (hI : IsO ro n C L P u p) (hv : v.toInt = VO ro n C P f u p) (hm : om2.toInt = om.toInt + 1) (ho : on2 = upd on om.toNatClampNeg v) : OIV ro n C L P f u om2 on2 (p + 1) := by
  have t : OB ro n C L P u (p + 1) = OB ro n C L P u p + 1 := CTP_y hI
  have h1 := h.1
  have b : ∀ w, 0 ≤ OB ro n C L P u w := fun w => (CTP_rng _ _).1
  have em : om.toNatClampNeg = (OB ro n C L P u p).toNat := by
    show om.toInt.toNat = _
    rw [h1]
  refine ⟨by omega, fun w w1 w2 => ?_⟩
  rw [ho, em]
  by_cases z : w = p
  · subst z
    rw [show upd on (OB ro n C L P u w).toNat v (OB ro n C L P u w).toNat = v by unfold upd; rw [if_pos rfl]]
    exact hv
  · have lt : OB ro n C L P u w < OB ro n C L P u p := CTP_lt (by omega) w2
    have b1 := b w
    rw [up_n (by omega)]
    exact h.2 w (by omega) w2
theorem EB_pos {n : Nat} {C : Nat → Nat} {P : Nat → Nat → Nat} {b x : Nat} (hb : b ≤ 512) (hx : (x : Int) = EB n C P b) : ∃ p : Nat, b ≤ p ∧ p ≤ 512 ∧ (x : Int) = EB n C P p ∧ ((x : Int) < EB n C P 512 → p < 512 ∧ IsE n C P p) ∧ (¬ (x : Int) < EB n C P 512 → p = 512) ∧ ∀ w, b ≤ w → w < p → ¬ IsE n C P w := by
  by_cases z : (x : Int) < EB n C P 512
  · obtain ⟨p, p1, p2, p3⟩ := CTP_inv (P := IsE n C P) (e := (x : Int)) (by omega) 512 z
    have p3' : EB n C P p = (x : Int) := p3
    have bp : b ≤ p := by
      apply Classical.byContradiction
      intro t
      have t2 : EB n C P p < EB n C P b := CTP_lt (by omega) p2
      omega
    refine ⟨p, bp, by omega, by omega, fun _ => ⟨p1, p2⟩, fun t => absurd z t, fun w w1 w2 w3 => ?_⟩
    have a : EB n C P w < EB n C P p := CTP_lt w2 w3
    have c := EB_mono (n := n) (C := C) (P := P) w1
    omega
  · have mn := EB_mono (n := n) (C := C) (P := P) hb
    refine ⟨512, hb, Nat.le_refl _, by omega, fun t => absurd t z, fun _ => rfl, fun w w1 w2 w3 => ?_⟩
    have a : EB n C P w < EB n C P 512 := CTP_lt w2 w3
    have c := EB_mono (n := n) (C := C) (P := P) w1
    omega
theorem fx9_isOne {S : bT9} {n : Nat} {C L : Nat → Nat} {P : Nat → Nat → Nat} {f : Nat → Int64} {u ro : Nat} (G : GRD n C L P) (hI : IAR n C L P f (b9g_itemNode S) (b9g_itemByte S) (b9g_itemChild S) (64 * u) 512) (hc : (b9g_chosen S).toInt = (ro : Int)) (h3 : 3 ≤ ro) (h5 : ro ≤ 5) {a1 : Int32} {w y : Nat} {Q : Int32 → Prop} (h1 : a1.toInt = (y : Int)) (hw : w < 512) (kw : 64 * u ≤ w) (hE : IsE n C P w) (hy : (y : Int) = EB n C P w - EB n C P (64 * u)) (hq : ∀ r : Int32, (r = 0 ↔ ¬ IsO ro n C L P u w) → Q r) : wp_X9_isOne S a1 Q := by
  obtain ⟨r1, r2, r3⟩ := hI w y kw hw hE hy
  have e5 := EB_le G (w := w) (by omega)
  have ek := EB_le G (w := 64 * u) (by omega)
  have em : a1.toNatClampNeg = y := by
    show a1.toInt.toNat = y
    omega
  have oe := OCV_end (f := f) (L := L) hw
  have no : ¬ IsO ro n C L P u w → bf_bool 0 ∧ Q 0 := fun p => ⟨rfl, hq _ ⟨fun _ => p, fun _ => rfl⟩⟩
  have yes : IsO ro n C L P u w → bf_bool 1 ∧ Q 1 := fun p => ⟨rfl, hq _ ⟨fun z => absurd z (by decide), fun z => absurd p z⟩⟩
  have c3t : ((3 : Int32)).toInt = 3 := rfl
  have c4t : ((4 : Int32)).toInt = 4 := rfl
  unfold wp_X9_isOne
  refine ⟨fun c3 => ⟨fun c4 => ?_, fun c4 => ?_⟩, fun c3 => ?_⟩
  · have n3 : ¬ ro = 3 := fun z => c3 (Int32.toInt_inj.mp (by omega))
    have n4 : ¬ ro = 4 := fun z => c4 (Int32.toInt_inj.mp (by omega))
    have r5 : ro = 5 := by omega
    subst r5
    have iff5 : IsO 5 n C L P u w ↔ IsN n C P w := by
      constructor
      · rintro (h | h | h | h | h | h)
        · omega
        · omega
        · omega
        · omega
        · omega
        · exact h.2.2
      · exact fun h => Or.inr (Or.inr (Or.inr (Or.inr (Or.inr ⟨rfl, kw, h⟩))))
    refine ⟨fun z => ?_, fun z => ?_⟩
    · refine yes (iff5.mpr ?_)
      have y0 : a1.toInt = 0 := by rw [z]; rfl
      obtain ⟨s, s1, s2, _, _⟩ := EDG_st G hE
      by_cases q : s = w % 64
      · unfold IsN
        rw [← q]
        exact s2
      · have hs : IsN n C P (64 * (w / 64) + s) := (IsN_at (by omega)).mpr s2
        have he := IsN_E G (by omega) hs
        have lt : EB n C P (64 * (w / 64) + s) < EB n C P w := CTP_lt (by omega) he
        have mn := EB_mono (n := n) (C := C) (P := P) (show 64 * u ≤ 64 * (w / 64) + s by omega)
        omega
    · have y0 : ¬ a1.toInt = 0 := fun q => z (Int32.toInt_inj.mp q)
      obtain ⟨v, v1, v2, v3⟩ := CTP_inv (P := IsE n C P) (e := EB n C P w - 1) (by omega) w (by show _ < EB n C P w; omega)
      have v3' : EB n C P v = EB n C P w - 1 := v3
      have kv : 64 * u ≤ v := by
        apply Classical.byContradiction
        intro q
        have lt : EB n C P v < EB n C P (64 * u) := CTP_lt (by omega) v2
        omega
      obtain ⟨m, rfl⟩ : ∃ m : Nat, y = m + 1 := ⟨y - 1, by omega⟩
      obtain ⟨q1, _, _⟩ := hI v m kv (by omega) v2 (by omega)
      have e1 : (a1 - 1).toInt = (m : Int) := by
        rw [pt_sub (by rw [pl_1]; omega) (by rw [pl_1]; omega), pl_1, h1]
        omega
      have em1 : (a1 - 1).toNatClampNeg = m := by
        show (a1 - 1).toInt.toNat = m
        omega
      rw [em, em1]
      refine ⟨pt_in (by omega) (by omega), pt_in (by omega) (by omega), fun c => no (fun o => ?_), fun c => yes (iff5.mpr (Classical.byContradiction (fun o => c (Int32.toInt_inj.mp ?_))))⟩
      · have hN := iff5.mp o
        have t : NB n C P (w + 1) = NB n C P w + 1 := CTP_y hN
        have mn := NB_mono (n := n) (C := C) (P := P) (show v + 1 ≤ w by omega)
        rw [c] at q1
        omega
      · have st : NB n C P (w + 1) = NB n C P (v + 1) := by
          refine CTP_st _ (by omega) (fun k k1 k2 k3 => ?_)
          by_cases q : k = w
          · rw [q] at k3
            exact o k3
          · have ke := IsN_E G (by omega) k3
            have a : EB n C P k < EB n C P w := CTP_lt (by omega) ke
            have b : EB n C P (v + 1) = EB n C P v + 1 := CTP_y v2
            have d := EB_mono (n := n) (C := C) (P := P) k1
            omega
        omega
  · have r4 : ro = 4 := by
      have : (b9g_chosen S).toInt = 4 := by rw [c4]; rfl
      omega
    subst r4
    have iff4 : IsO 4 n C L P u w ↔ ¬ C (w % 64) = w / 64 := by
      constructor
      · rintro (h | h | h | h | h | h)
        · omega
        · omega
        · omega
        · omega
        · exact h.2.2.2
        · omega
      · exact fun h => Or.inr (Or.inr (Or.inr (Or.inr (Or.inl ⟨rfl, kw, hE, h⟩))))
    rw [em]
    exact ⟨pt_in (by omega) (by omega), fun c => no (fun o => iff4.mp o (r3.mp c)), fun c => yes (iff4.mpr (fun z => c (r3.mpr z)))⟩
  · have r4 : ro = 3 := by
      have : (b9g_chosen S).toInt = 3 := by rw [c3]; rfl
      omega
    subst r4
    have iff3 : IsO 3 n C L P u w ↔ L (w % 64) = w / 64 := by
      constructor
      · rintro (h | h | h | h | h | h)
        · omega
        · omega
        · omega
        · exact h.2.2.2
        · omega
        · omega
      · exact fun h => Or.inr (Or.inr (Or.inr (Or.inl ⟨rfl, kw, hE, h⟩)))
    rw [em]
    exact ⟨pt_in (by omega) (by omega), fun c => no (fun o => c (by rw [r2]; exact oe.mpr (iff3.mp o))), fun c => yes (iff3.mpr (oe.mp (by rw [← r2]; exact c)))⟩
theorem RK_m {ro n : Nat} {C L : Nat → Nat} {P : Nat → Nat → Nat} {f : Nat → Int64} {u : Nat} {i m : Int} (h0 : 0 ≤ m) (h1 : m ≤ OB ro n C L P u 512) (h : ∀ w, w < 512 → IsO ro n C L P u w → (VO ro n C P f u w < i ↔ OB ro n C L P u w < m)) : RK ro n C L P f u i = m := by
  have e := CNT_pre (Q := IsO ro n C L P u) (R := fun w => VO ro n C P f u w < i) h0 512 h
  have e2 : RK ro n C L P f u i = min m (OB ro n C L P u 512) := e
  omega
/-- ones ahead, and what stands at their number -/
theorem fx9_onesAhead {S : bT9} {ro n : Nat} {C L : Nat → Nat} {P : Nat → Nat → Nat} {f : Nat → Int64} {u : Nat} (G : GRD n C L P) (hP : ∀ l i, P l i = PX (ub (f i)) l) (hA : OAR ro n C L P f u (b9g_oneMany S) (b9g_rowLong S) (b9g_ones S)) {a1 : Int32} {Q : Int32 → Prop} (hq : ∀ (r : Int32) (m : Nat), r.toInt = (m : Int) → r.toInt = RK ro n C L P f u a1.toInt → (b9g_oneMany S).toInt ≤ 512 → ((b9g_oneMany S).toInt ≤ (m : Int) → RK ro n C L P f u (a1.toInt + 1) = RK ro n C L P f u a1.toInt) → (¬ (b9g_oneMany S).toInt ≤ (m : Int) → (b9g_ones S m = a1 → RK ro n C L P f u (a1.toInt + 1) = RK ro n C L P f u a1.toInt + 1) ∧ (¬ b9g_ones S m = a1 → RK ro n C L P f u (a1.toInt + 1) = RK ro n C L P f u a1.toInt)) → Q r) : wp_X9_onesAhead S a1 Q := by
  obtain ⟨o1, _, o3⟩ := hA
  have ob := CTP_rng (IsO ro n C L P u) 512
  have ob' : 0 ≤ OB ro n C L P u 512 ∧ OB ro n C L P u 512 ≤ 512 := ob
  have at_ : ∀ m : Nat, (m : Int) < OB ro n C L P u 512 → ∃ w, w < 512 ∧ IsO ro n C L P u w ∧ OB ro n C L P u w = (m : Int) ∧ (b9g_ones S m).toInt = VO ro n C P f u w := by
    intro m hm
    obtain ⟨w, w1, w2, w3⟩ := CTP_inv (P := IsO ro n C L P u) (e := (m : Int)) (by omega) 512 hm
    have w3' : OB ro n C L P u w = (m : Int) := w3
    have k := o3 w w1 w2
    rw [w3', show ((m : Int)).toNat = m by omega] at k
    exact ⟨w, w1, w2, w3', k⟩
  have mono : ∀ w v, w < 512 → v < 512 → IsO ro n C L P u w → IsO ro n C L P u v → OB ro n C L P u w < OB ro n C L P u v → VO ro n C P f u w < VO ro n C P f u v := by
    intro w v w1 v1 w2 v2 lt
    refine VO_mono G hP ?_ v1 w2 v2
    apply Classical.byContradiction
    intro z
    have : OB ro n C L P u v ≤ OB ro n C L P u w := CTP_le w (by omega)
    omega
  have inj : ∀ w v, IsO ro n C L P u w → IsO ro n C L P u v → OB ro n C L P u w = OB ro n C L P u v → w = v := fun w v w2 v2 e => CTP_inj (P := IsO ro n C L P u) w2 v2 e
  -- the end of the walk
  have fin : ∀ (r : Int32) (m : Nat), r.toInt = (m : Int) → (m : Int) ≤ OB ro n C L P u 512 → (∀ k : Nat, k < m → (b9g_ones S k).toInt < a1.toInt) → ((m : Int) < OB ro n C L P u 512 → a1.toInt ≤ (b9g_ones S m).toInt) → Q r := by
    intro r m hr hm lo hi
    have cmp : ∀ w, w < 512 → IsO ro n C L P u w → (VO ro n C P f u w < a1.toInt ↔ OB ro n C L P u w < (m : Int)) := by
      intro w w1 w2
      have b := (CTP_rng (IsO ro n C L P u) w).1
      have b' : 0 ≤ OB ro n C L P u w := b
      have e := o3 w w1 w2
      constructor
      · intro t
        apply Classical.byContradiction
        intro z
        have lt : OB ro n C L P u w < OB ro n C L P u 512 := CTP_lt w1 w2
        obtain ⟨v, v1, v2, v3, v4⟩ := at_ m (by omega)
        have h2 := hi (by omega)
        by_cases q : OB ro n C L P u v = OB ro n C L P u w
        · have q2 := inj v w v2 w2 q
          rw [q2] at v4
          omega
        · have := mono v w v1 w1 v2 w2 (by omega)
          omega
      · intro t
        have h2 := lo (OB ro n C L P u w).toNat (by omega)
        omega
    have rk := RK_m (f := f) (i := a1.toInt) (m := (m : Int)) (by omega) hm cmp
    have keep : (∀ w, w < 512 → IsO ro n C L P u w → ¬ VO ro n C P f u w = a1.toInt) → RK ro n C L P f u (a1.toInt + 1) = RK ro n C L P f u a1.toInt := by
      intro ne
      rw [rk]
      refine RK_m (by omega) hm (fun w w1 w2 => ?_)
      have c := cmp w w1 w2
      have d := ne w w1 w2
      constructor
      · intro t
        exact c.mp (by omega)
      · intro t
        have := c.mpr t
        omega
    refine hq r m hr (by omega) (by omega) (fun t => keep (fun w w1 w2 z => ?_)) (fun t => ?_)
    · have lt : OB ro n C L P u w < OB ro n C L P u 512 := CTP_lt w1 w2
      have c := cmp w w1 w2
      have := c.mpr (by omega)
      omega
    · obtain ⟨v, v1, v2, v3, v4⟩ := at_ m (by omega)
      refine ⟨fun z => ?_, fun z => keep (fun w w1 w2 y => ?_)⟩
      · rw [rk]
        refine RK_m (by omega) (by omega) (fun w w1 w2 => ?_)
        have c := cmp w w1 w2
        rw [z] at v4
        constructor
        · intro t
          by_cases q : VO ro n C P f u w < a1.toInt
          · have := c.mp q
            omega
          · apply Classical.byContradiction
            intro y
            have := mono v w v1 w1 v2 w2 (by omega)
            omega
        · intro t
          by_cases q : OB ro n C L P u w < (m : Int)
          · have := c.mpr q
            omega
          · have := inj v w v2 w2 (by omega)
            rw [this] at v4
            omega
      · have c := cmp w w1 w2
        have n1 : ¬ OB ro n C L P u w < (m : Int) := fun t2 => by
          have := c.mpr t2
          omega
        have h2 := hi (by omega)
        by_cases q : OB ro n C L P u v = OB ro n C L P u w
        · have q2 := inj v w v2 w2 q
          rw [q2] at v4
          exact z (Int32.toInt_inj.mp (by omega))
        · have := mono v w v1 w1 v2 w2 (by omega)
          omega
  unfold wp_X9_onesAhead wp_X9_onesAhead_2
  refine ⟨fun k x1 x2 => x1 = a1 ∧ ∃ m : Nat, x2.toInt = (m : Int) ∧ (m : Int) ≤ OB ro n C L P u 512 ∧ (∀ k : Nat, k < m → (b9g_ones S k).toInt < a1.toInt) ∧ k = 513 - m, ⟨_, rfl, 0, rfl, by omega, fun k hk => by omega, rfl⟩, ?_⟩
  rintro k x1 x2 ⟨rfl, m, hm, m5, lo, hk⟩
  have em : x2.toNatClampNeg = m := by
    show x2.toInt.toNat = m
    omega
  unfold wp_X9_onesAhead_2b
  refine ⟨fun c => ?_, fun c => ?_⟩
  · simp only [pn] at c
    exact fin x2 m hm m5 lo (fun t => by omega)
  simp only [pn] at c
  rw [em]
  refine ⟨pt_in (by omega) (by omega), fun d => ?_, fun d => ?_⟩
  · simp only [pn] at d
    exact fin x2 m hm m5 lo (fun _ => d)
  · simp only [pn] at d
    refine ⟨513 - (m + 1), by omega, rfl, m + 1, by rw [pt_add (by rw [pl_1]; omega) (by rw [pl_1]; omega), pl_1, hm]; omega, by omega, fun q hq2 => ?_, rfl⟩
    by_cases z : q = m
    · rw [z]
      omega
    · exact lo q (by omega)
theorem E_node {n : Nat} {C L : Nat → Nat} {P : Nat → Nat → Nat} (G : GRD n C L P) {p w : Nat} (hp : p < 512 → IsN n C P p) (pw : p ≤ w) (hw : w < 512) (hE : IsE n C P w) : ∃ v : Nat, p ≤ v ∧ v ≤ w ∧ IsN n C P v := by
  obtain ⟨s, s1, s2, s3, _⟩ := EDG_st G hE
  have hs : IsN n C P (64 * (w / 64) + s) := (IsN_at (by omega)).mpr s2
  by_cases z : p ≤ 64 * (w / 64) + s
  · exact ⟨_, z, by omega, hs⟩
  · exfalso
    have hN := hp (by omega)
    have a : NB n C P (p + 1) = NB n C P p + 1 := CTP_y hN
    have b : NB n C P (64 * (w / 64) + s + 1) = NB n C P (64 * (w / 64) + s) + 1 := CTP_y hs
    have c := NB_mono (n := n) (C := C) (P := P) (show 64 * (w / 64) + s + 1 ≤ p by omega)
    have d := NB_mono (n := n) (C := C) (P := P) (show p + 1 ≤ w + 1 by omega)
    omega
/-! answers about rows of bits -/
def BTV (ro n : Nat) (C L : Nat → Nat) (P : Nat → Nat → Nat) (f : Nat → Int64) (u : Nat) (i r : Int) : Prop := (0 ≤ i ∧ i < RL ro n C P u → r = RK ro n C L P f u (i + 1) - RK ro n C L P f u i) ∧ (¬ (0 ≤ i ∧ i < RL ro n C P u) → r = -1)
def RKV (ro n : Nat) (C L : Nat → Nat) (P : Nat → Nat → Nat) (f : Nat → Int64) (u : Nat) (i r : Int) : Prop := (0 ≤ i ∧ i ≤ RL ro n C P u → r = RK ro n C L P f u i) ∧ (¬ (0 ≤ i ∧ i ≤ RL ro n C P u) → r = -1)
theorem RK_rng {ro n : Nat} {C L : Nat → Nat} {P : Nat → Nat → Nat} {f : Nat → Int64} {u : Nat} {i : Int} : 0 ≤ RK ro n C L P f u i ∧ RK ro n C L P f u i ≤ 512 := CTP_rng _ 512
theorem RL_nn {ro n : Nat} {C : Nat → Nat} {P : Nat → Nat → Nat} {u : Nat} (hu : u ≤ 8) : 0 ≤ RL ro n C P u := by
  unfold RL
  have a := NB_nn (n := n) (C := C) (P := P) (64 * u)
  have b := EB_mono (n := n) (C := C) (P := P) (show 64 * u ≤ 512 by omega)
  by_cases z1 : ro ≤ 1
  · rw [if_pos z1]
    omega
  · rw [if_neg z1]
    by_cases z2 : ro = 2
    · rw [if_pos z2]
      exact a
    · rw [if_neg z2]
      omega
theorem R_row {x x' y y' r q : Int32} {T : Nat → Int32} {n : Int32} (h : x.toInt = y.toInt ∧ 0 ≤ x.toInt ∧ x.toInt ≤ 5) (e : r.toInt = q.toInt) (hr : RWE T n r) (a : (r.toInt = -1 → x' = x) ∧ (r.toInt ≠ -1 → x' = r)) (b : (q.toInt = -1 → y' = y) ∧ (q.toInt ≠ -1 → y' = q)) : x'.toInt = y'.toInt ∧ 0 ≤ x'.toInt ∧ x'.toInt ≤ 5 := by
  by_cases z : r.toInt = -1
  · rw [a.1 z, b.1 (by omega)]
    exact h
  · rw [a.2 z, b.2 (by omega)]
    refine ⟨e, ?_⟩
    rcases hr with ⟨m, hm, e2, _⟩ | ⟨e2, _⟩
    · omega
    · exact absurd e2 z
theorem AGX_o {X : bT1} {S : bT9} (h : AGX X S) : (∀ ro u w, IsO ro (tn X) (tC X) (tL X) (tP X) u w ↔ IsO ro (n9 S) (C9 S) (L9 S) (P9 S) u w) ∧ (∀ ro u w, IsO ro (n9 S) (C9 S) (L9 S) (P9 S) u w → VO ro (tn X) (tC X) (tP X) (b0g_bytes (b1g_owners X)) u w = VO ro (n9 S) (C9 S) (P9 S) (fun j => b9g_keys S (64 + j)) u w) ∧ (∀ ro u, RL ro (tn X) (tC X) (tP X) u = RL ro (n9 S) (C9 S) (P9 S) u) ∧ (∀ ro u w, OB ro (tn X) (tC X) (tL X) (tP X) u w = OB ro (n9 S) (C9 S) (L9 S) (P9 S) u w) ∧ (∀ ro u i, RK ro (tn X) (tC X) (tL X) (tP X) (b0g_bytes (b1g_owners X)) u i = RK ro (n9 S) (C9 S) (L9 S) (P9 S) (fun j => b9g_keys S (64 + j)) u i) := by
  obtain ⟨eN, eE, _, eNB, eEB, _⟩ := AGX_g h
  obtain ⟨hn, hC, hL, hP, hf⟩ := h
  rw [hn] at eN eE eNB eEB ⊢
  have a : ∀ ro u w, IsO ro (n9 S) (tC X) (tL X) (tP X) u w ↔ IsO ro (n9 S) (C9 S) (L9 S) (P9 S) u w := fun ro u w => IsO_cg hC hL eE eN ro u w
  have b : ∀ ro u w, IsO ro (n9 S) (C9 S) (L9 S) (P9 S) u w → VO ro (n9 S) (tC X) (tP X) (b0g_bytes (b1g_owners X)) u w = VO ro (n9 S) (C9 S) (P9 S) (fun j => b9g_keys S (64 + j)) u w := fun ro u w o => VO_cg eNB eEB hf (IsO_in o)
  refine ⟨a, b, fun ro u => RL_cg eNB eEB, fun ro u w => OB_cg hC hL eE eN ro u w, fun ro u i => CTP_congr 512 (fun w _ => ⟨fun z => ⟨(a ro u w).mp z.1, ?_⟩, fun z => ⟨(a ro u w).mpr z.1, ?_⟩⟩)⟩
  · rw [← b ro u w ((a ro u w).mp z.1)]
    exact z.2
  · rw [b ro u w z.1]
    exact z.2
theorem C_ones {X : bT1} {P : bT3} {S : bT9} {cx cy : Int32} (h9 : 0 ≤ (b9g_now S 9).toInt) (hx : LFP X (b9g_now S) (fun j => b9g_keys S (64 + j)) (fun j => b9g_lengths S (64 + j))) (hb : (b9g_now S 9).toInt = 0 ∨ (b3g_values P 2 + 1 = b9g_now S 13 ∧ b3g_values P 3 = b9g_now S 14)) (hd : DB2 P) (hc : cx.toInt = cy.toInt ∧ 0 ≤ cx.toInt ∧ cx.toInt ≤ 5) {A B : Prop} (ha : A) (hbb : B) {M1 M2 : Nat → Nat → Prop} (h : A → ∀ ro : Nat, cx.toInt = (ro : Int) → ro ≤ 5 → ∃ k lv : Nat, UPX X (b3g_values P 2) (b3g_values P 3) k lv ∧ M1 ro k) (h2 : B → ∀ ro : Nat, cy.toInt = (ro : Int) → ro ≤ 5 → ∃ k lv : Nat, UPD S k lv ∧ M2 ro k) : ∃ ro k : Nat, k ≤ 8 ∧ M1 ro k ∧ M2 ro k := by
  have ag := AGX_of h9 hx
  obtain ⟨ro, hr⟩ : ∃ ro : Nat, cx.toInt = (ro : Int) := ⟨cx.toInt.toNat, by omega⟩
  obtain ⟨k, lv, u1, u2⟩ := h ha ro hr (by omega)
  obtain ⟨k', lv', v1, v2⟩ := h2 hbb ro (by omega) (by omega)
  obtain ⟨e1, e2⟩ := UPQ ag hb hd u1 v1
  have e3 := v1.2.1
  have e4 := v1.2.2.1
  refine ⟨ro, k', by omega, ?_, v2⟩
  rw [← e1]
  exact u2
theorem C_bit {X : bT1} {P : bT3} {S : bT9} {cx cy a r q : Int32} (h9 : 0 ≤ (b9g_now S 9).toInt) (hx : LFP X (b9g_now S) (fun j => b9g_keys S (64 + j)) (fun j => b9g_lengths S (64 + j))) (hb : (b9g_now S 9).toInt = 0 ∨ (b3g_values P 2 + 1 = b9g_now S 13 ∧ b3g_values P 3 = b9g_now S 14)) (hd : DB2 P) (hc : cx.toInt = cy.toInt ∧ 0 ≤ cx.toInt ∧ cx.toInt ≤ 5) {A B : Prop} (ha : A) (hbb : B) (h : A → ∀ ro : Nat, cx.toInt = (ro : Int) → ro ≤ 5 → ∃ k lv : Nat, UPX X (b3g_values P 2) (b3g_values P 3) k lv ∧ BTV ro (tn X) (tC X) (tL X) (tP X) (b0g_bytes (b1g_owners X)) k a.toInt r.toInt) (h2 : B → ∀ ro : Nat, cy.toInt = (ro : Int) → ro ≤ 5 → ∃ k lv : Nat, UPD S k lv ∧ BTV ro (n9 S) (C9 S) (L9 S) (P9 S) (fun j => b9g_keys S (64 + j)) k a.toInt q.toInt) : r.toInt = q.toInt := by
  obtain ⟨ro, k, _, m1, m2⟩ := C_ones h9 hx hb hd hc ha hbb h h2
  obtain ⟨_, _, eR, _, eK⟩ := AGX_o (AGX_of h9 hx)
  unfold BTV at m1 m2
  rw [eR, eK, eK] at m1
  by_cases z : 0 ≤ a.toInt ∧ a.toInt < RL ro (n9 S) (C9 S) (P9 S) k
  · rw [m1.1 z, m2.1 z]
  · rw [m1.2 z, m2.2 z]
theorem C_rank {X : bT1} {P : bT3} {S : bT9} {cx cy a r q : Int32} (h9 : 0 ≤ (b9g_now S 9).toInt) (hx : LFP X (b9g_now S) (fun j => b9g_keys S (64 + j)) (fun j => b9g_lengths S (64 + j))) (hb : (b9g_now S 9).toInt = 0 ∨ (b3g_values P 2 + 1 = b9g_now S 13 ∧ b3g_values P 3 = b9g_now S 14)) (hd : DB2 P) (hc : cx.toInt = cy.toInt ∧ 0 ≤ cx.toInt ∧ cx.toInt ≤ 5) {A B : Prop} (ha : A) (hbb : B) (h : A → ∀ ro : Nat, cx.toInt = (ro : Int) → ro ≤ 5 → ∃ k lv : Nat, UPX X (b3g_values P 2) (b3g_values P 3) k lv ∧ RKV ro (tn X) (tC X) (tL X) (tP X) (b0g_bytes (b1g_owners X)) k a.toInt r.toInt) (h2 : B → ∀ ro : Nat, cy.toInt = (ro : Int) → ro ≤ 5 → ∃ k lv : Nat, UPD S k lv ∧ RKV ro (n9 S) (C9 S) (L9 S) (P9 S) (fun j => b9g_keys S (64 + j)) k a.toInt q.toInt) : r.toInt = q.toInt := by
  obtain ⟨ro, k, _, m1, m2⟩ := C_ones h9 hx hb hd hc ha hbb h h2
  obtain ⟨_, _, eR, _, eK⟩ := AGX_o (AGX_of h9 hx)
  unfold RKV at m1 m2
  rw [eR, eK] at m1
  by_cases z : 0 ≤ a.toInt ∧ a.toInt ≤ RL ro (n9 S) (C9 S) (P9 S) k
  · rw [m1.1 z, m2.1 z]
  · rw [m1.2 z, m2.2 z]
theorem C_select {X : bT1} {P : bT3} {S : bT9} {cx cy a r q : Int32} (h9 : 0 ≤ (b9g_now S 9).toInt) (hx : LFP X (b9g_now S) (fun j => b9g_keys S (64 + j)) (fun j => b9g_lengths S (64 + j))) (hb : (b9g_now S 9).toInt = 0 ∨ (b3g_values P 2 + 1 = b9g_now S 13 ∧ b3g_values P 3 = b9g_now S 14)) (hd : DB2 P) (hc : cx.toInt = cy.toInt ∧ 0 ≤ cx.toInt ∧ cx.toInt ≤ 5) {A B : Prop} (ha : A) (hbb : B) (h : A → ∀ ro : Nat, cx.toInt = (ro : Int) → ro ≤ 5 → ∃ k lv : Nat, UPX X (b3g_values P 2) (b3g_values P 3) k lv ∧ SEL ro (tn X) (tC X) (tL X) (tP X) (b0g_bytes (b1g_owners X)) k a.toInt r.toInt) (h2 : B → ∀ ro : Nat, cy.toInt = (ro : Int) → ro ≤ 5 → ∃ k lv : Nat, UPD S k lv ∧ SEL ro (n9 S) (C9 S) (L9 S) (P9 S) (fun j => b9g_keys S (64 + j)) k a.toInt q.toInt) : r.toInt = q.toInt := by
  obtain ⟨ro, k, _, m1, m2⟩ := C_ones h9 hx hb hd hc ha hbb h h2
  obtain ⟨eI, eV, _, eO, _⟩ := AGX_o (AGX_of h9 hx)
  refine SEL_one (ro := ro) (n := n9 S) (C := C9 S) (L := L9 S) (P := P9 S) (f := fun j => b9g_keys S (64 + j)) (u := k) (k := a.toInt) ?_ m2
  rcases m1 with ⟨w, w1, w2, w3, w4⟩ | ⟨w1, w2⟩
  · have o := (eI ro k w).mp w2
    exact Or.inl ⟨w, w1, o, by rw [← eO]; exact w3, by rw [w4]; exact eV ro k w o⟩
  · exact Or.inr ⟨w1, by rw [← eO]; exact w2⟩
/-! how many bits -/
def BIV (ro n : Nat) (C L : Nat → Nat) (P : Nat → Nat → Nat) (u : Nat) (tl a r : Int32) : Prop := (a.toInt = 0 → r.toInt = BTN n C P u) ∧ (a.toInt = 1 → r.toInt = BTE n C P u) ∧ (a.toInt = 2 → r = tl) ∧ (a.toInt = 3 → ∃ x : Int32, x.toInt = BTS n C P u ∧ r = x + tl) ∧ (a.toInt = 4 → r.toInt = 8 * SMB (fun i => min (L i) 8) n) ∧ (a.toInt = 5 → r.toInt = RL ro n C P u) ∧ (a.toInt = 6 → r.toInt = OB ro n C L P u 512) ∧ (¬ (0 ≤ a.toInt ∧ a.toInt ≤ 6) → r.toInt = -1)
theorem BIV_one {ro n : Nat} {C L : Nat → Nat} {P : Nat → Nat → Nat} {u : Nat} {tl a r q : Int32} (h : BIV ro n C L P u tl a r) (g : BIV ro n C L P u tl a q) : r.toInt = q.toInt := by
  obtain ⟨h0, h1, h2, h3, h4, h5, h6, h7⟩ := h
  obtain ⟨g0, g1, g2, g3, g4, g5, g6, g7⟩ := g
  by_cases z : 0 ≤ a.toInt ∧ a.toInt ≤ 6
  · by_cases z0 : a.toInt = 0
    · rw [h0 z0, g0 z0]
    by_cases z1 : a.toInt = 1
    · rw [h1 z1, g1 z1]
    by_cases z2 : a.toInt = 2
    · rw [h2 z2, g2 z2]
    by_cases z3 : a.toInt = 3
    · obtain ⟨x, x1, x2⟩ := h3 z3
      obtain ⟨y, y1, y2⟩ := g3 z3
      rw [x2, y2, show x = y from Int32.toInt_inj.mp (by omega)]
    by_cases z4 : a.toInt = 4
    · rw [h4 z4, g4 z4]
    by_cases z5 : a.toInt = 5
    · rw [h5 z5, g5 z5]
    · rw [h6 (by omega), g6 (by omega)]
  · rw [h7 z, g7 z]
theorem SMB_len {L : Nat → Nat} (n : Nat) : 0 ≤ SMB (fun i => min (L i) 8) n ∧ SMB (fun i => min (L i) 8) n ≤ 8 * (n : Int) := SMB_rng (fun i => Nat.min_le_right _ _) n
theorem fx0_allBytes {X : bT1} (o : LVO X) (j : J1 X) {Q : Int32 → Prop} (hq : ∀ r : Int32, r.toInt = SMB (fun i => min (tL X i) 8) (tn X) → Q r) : wp_X0_allBytes (b1g_owners X) Q := by
  have jn := tnn j
  have jo := J0g_count (J1g_owners j)
  have G := tG o j
  unfold wp_X0_allBytes wp_X0_allBytes_4
  refine ⟨fun k x1 x2 => ∃ i : Nat, x2.toInt = (i : Int) ∧ i ≤ tn X ∧ x1.toInt = SMB (fun i => min (tL X i) 8) i ∧ k = 64 - i, ⟨_, 0, rfl, by omega, rfl, rfl⟩, ?_⟩
  rintro k x1 x2 ⟨i, e2, hi, hv, hk⟩
  have cr := SMB_len (L := tL X) i
  suffices H : ∀ B : Int32 → Int32 → Prop, (∀ v : Int32, i < tn X → v.toInt = SMB (fun i => min (tL X i) 8) (i + 1) → B v (x2 + 1)) → wp_X0_allBytes_4b (b1g_owners X) x1 x2 Q B from H _ (fun v h t => ⟨64 - (i + 1), by omega, i + 1, by rw [pt_add (by rw [pl_1]; omega) (by rw [pl_1]; omega), pl_1, e2]; omega, by omega, t, rfl⟩)
  intro B hB
  unfold wp_X0_allBytes_4b
  refine ⟨fun c => ?_, fun c => ?_⟩
  · simp only [pn] at c
    have ei : i = tn X := by omega
    rw [ei] at hv
    exact hq x1 hv
  simp only [pn] at c
  refine fx_lengthAt (J1g_owners j) (fun r1 hr _ => hB _ (by omega) ?_)
  have er := hr i (by omega) (by omega)
  have b1 := o.2.1.2 i (by omega)
  have tl : ((tL X i : Nat) : Int) = (b0g_lengths (b1g_owners X) i).toInt := by
    show (((b0g_lengths (b1g_owners X) i).toInt.toNat : Nat) : Int) = _
    omega
  rw [er]
  show (x1 + b0g_lengths (b1g_owners X) i).toInt = SMB (fun i => min (tL X i) 8) i + ((min (tL X i) 8 : Nat) : Int)
  rw [pt_add (by omega) (by omega), hv]
  omega
theorem fx9_keyBits {S : bT9} (hK : K9 S) {Q : Int32 → Prop} (hq : ∀ r : Int32, r.toInt = 8 * SMB (fun i => min (L9 S i) 8) (n9 S) → Q r) : wp_X9_keyBits S Q := by
  have jn := (K9g_now hK).2.2.2.1
  have en : ((n9 S : Nat) : Int) = (b9g_now S 9).toInt := by unfold n9; omega
  unfold wp_X9_keyBits wp_X9_keyBits_4
  refine ⟨fun k x1 x2 => ∃ i : Nat, x2.toInt = (i : Int) ∧ i ≤ n9 S ∧ x1.toInt = 8 * SMB (fun i => min (L9 S i) 8) i ∧ k = 64 - i, ⟨_, 0, rfl, by omega, rfl, rfl⟩, ?_⟩
  rintro k x1 x2 ⟨i, e2, hi, hv, hk'⟩
  have cr := SMB_len (L := L9 S) i
  suffices H : ∀ B : Int32 → Int32 → Prop, (∀ v : Int32, i < n9 S → v.toInt = 8 * SMB (fun i => min (L9 S i) 8) (i + 1) → B v (x2 + 1)) → wp_X9_keyBits_4b S x1 x2 Q B from H _ (fun v h t => ⟨64 - (i + 1), by omega, i + 1, by rw [pt_add (by rw [pl_1]; omega) (by rw [pl_1]; omega), pl_1, e2]; omega, by omega, t, rfl⟩)
  intro B hB
  have e9 : b9g_now S ((9 : Int32)).toNatClampNeg = b9g_now S 9 := rfl
  have ei : x2.toNatClampNeg = i := by
    show x2.toInt.toNat = i
    omega
  unfold wp_X9_keyBits_4b
  rw [e9]
  refine ⟨pt_in (by decide) (by decide), fun c => ?_, fun c => ?_⟩
  · simp only [pn] at c
    have ei : i = n9 S := by omega
    rw [ei] at hv
    exact hq x1 hv
  simp only [pn] at c
  refine fx9_lengthOf (by omega) (by omega) ?_
  rw [ei]
  refine hB _ (by omega) ?_
  have jl := K9g_lengths hK (64 + i)
  have tl : ((L9 S i : Nat) : Int) = (b9g_lengths S (64 + i)).toInt := by
    show (((b9g_lengths S (64 + i)).toInt.toNat : Nat) : Int) = _
    omega
  have c8 : ((8 : Int32)).toInt = 8 := rfl
  have m8 : ((8 : Int32) * b9g_lengths S (64 + i)).toInt = 8 * (b9g_lengths S (64 + i)).toInt := by rw [pt_mul (by rw [c8]; omega) (by rw [c8]; omega), c8]
  show (x1 + 8 * b9g_lengths S (64 + i)).toInt = 8 * (SMB (fun i => min (L9 S i) 8) i + ((min (L9 S i) 8 : Nat) : Int))
  rw [pt_add (by omega) (by omega), hv, m8]
  omega
theorem C_bits {X : bT1} {P : bT3} {S : bT9} {cx cy a r q : Int32} (h9 : 0 ≤ (b9g_now S 9).toInt) (hx : LFP X (b9g_now S) (fun j => b9g_keys S (64 + j)) (fun j => b9g_lengths S (64 + j))) (hb : (b9g_now S 9).toInt = 0 ∨ (b3g_values P 2 + 1 = b9g_now S 13 ∧ b3g_values P 3 = b9g_now S 14)) (hd : DB2 P) (hc : cx.toInt = cy.toInt ∧ 0 ≤ cx.toInt ∧ cx.toInt ≤ 5) {A B : Prop} (ha : A) (hbb : B) (h : A → ∀ ro : Nat, cx.toInt = (ro : Int) → ro ≤ 5 → ∃ k lv : Nat, UPX X (b3g_values P 2) (b3g_values P 3) k lv ∧ BIV ro (tn X) (tC X) (tL X) (tP X) k (TLB (b0g_count (b1g_owners X)) (b1g_hashBits X) (b1g_realBits X)) a r) (h2 : B → ∀ ro : Nat, cy.toInt = (ro : Int) → ro ≤ 5 → ∃ k lv : Nat, UPD S k lv ∧ BIV ro (n9 S) (C9 S) (L9 S) (P9 S) k (TLB (b9g_now S 9) (HBT (b9g_now S)) (NBT (b9g_now S))) a q) : r.toInt = q.toInt := by
  obtain ⟨ro, k, _, m1, m2⟩ := C_ones h9 hx hb hd hc ha hbb h h2
  have ag := AGX_of h9 hx
  obtain ⟨_, _, eR, eO, _⟩ := AGX_o ag
  obtain ⟨_, _, _, eN, eE, _⟩ := AGX_g ag
  have c2 : SMB (fun i => min (tL X i) 8) (tn X) = SMB (fun i => min (L9 S i) 8) (n9 S) := by
    rw [ag.1]
    exact SMB_congr _ (fun i hi => by show min (tL X i) 8 = min (L9 S i) 8; rw [ag.2.2.1 i hi])
  refine BIV_one (ro := ro) (n := n9 S) (C := C9 S) (L := L9 S) (P := P9 S) (u := k) (tl := TLB (b9g_now S 9) (HBT (b9g_now S)) (NBT (b9g_now S))) ?_ m2
  unfold BIV BTS BTN BTE at m1
  unfold BIV BTS BTN BTE
  rw [TLB_eq hx, eN, eE, eE, c2, eR, eO] at m1
  exact m1
