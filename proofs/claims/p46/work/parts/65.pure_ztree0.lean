/-! the tree as counts on a grid of levels and leaves -/
theorem CTP_le {P : Nat → Prop} {a : Nat} : ∀ b : Nat, a ≤ b → CTP P a ≤ CTP P b := by
  intro b
  induction b with
  | zero => intro h; rw [show a = 0 by omega]; exact Int.le_refl _
  | succ b ih =>
    intro h
    by_cases e : a = b + 1
    · rw [e]; exact Int.le_refl _
    · have i := ih (by omega)
      by_cases q : P b
      · rw [CTP_y q]; omega
      · rw [CTP_n q]; exact i
theorem CTP_st {P : Nat → Prop} {a : Nat} : ∀ b : Nat, a ≤ b → (∀ w, a ≤ w → w < b → ¬ P w) → CTP P b = CTP P a := by
  intro b
  induction b with
  | zero => intro h _; rw [show a = 0 by omega]
  | succ b ih =>
    intro h k
    by_cases e : a = b + 1
    · rw [e]
    · rw [CTP_n (k b (by omega) (by omega))]
      exact ih (by omega) (fun w p q => k w p (by omega))
theorem CTP_lt {P : Nat → Prop} {a b : Nat} (h : a < b) (p : P a) : CTP P a < CTP P b := by
  have := CTP_le (P := P) b (show a + 1 ≤ b by omega)
  rw [CTP_y p] at this
  omega
theorem CTP_inj {P : Nat → Prop} {a b : Nat} (p : P a) (q : P b) (h : CTP P a = CTP P b) : a = b := by
  by_cases x : a < b
  · have := CTP_lt x p
    omega
  · by_cases y : b < a
    · have := CTP_lt y q
      omega
    · omega
theorem CTP_inv {P : Nat → Prop} {e : Int} (h0 : 0 ≤ e) : ∀ n : Nat, e < CTP P n → ∃ w, w < n ∧ P w ∧ CTP P w = e := by
  intro n
  induction n with
  | zero =>
    intro h
    have h2 : e < 0 := h
    omega
  | succ n ih =>
    intro h
    by_cases q : P n
    · rw [CTP_y q] at h
      by_cases x : e < CTP P n
      · obtain ⟨w, a, b, c⟩ := ih x
        exact ⟨w, by omega, b, c⟩
      · exact ⟨n, by omega, q, by omega⟩
    · rw [CTP_n q] at h
      obtain ⟨w, a, b, c⟩ := ih h
      exact ⟨w, by omega, b, c⟩
theorem CTP_sub {P R : Nat → Prop} (s : ∀ w, R w → P w) {a b : Nat} (h : a ≤ b) (e : CTP P a = CTP P b) : CTP R a = CTP R b := by
  refine (CTP_st b h (fun w p q r => ?_)).symm
  have h1 := CTP_le (P := P) w p
  have h2 := CTP_lt q (s w r)
  omega
theorem CTP_sub2 {P R : Nat → Prop} (s : ∀ w, R w → P w) {a b : Nat} (e : CTP P a = CTP P b) : CTP R a = CTP R b := by
  by_cases h : a ≤ b
  · exact CTP_sub s h e
  · exact (CTP_sub s (by omega) e.symm).symm
theorem CTP_or {P R : Nat → Prop} : ∀ n : Nat, CTP (fun w => P w ∨ R w) n ≤ CTP P n + CTP R n := by
  intro n
  induction n with
  | zero => exact Int.le_refl _
  | succ n ih =>
    by_cases p : P n
    · rw [CTP_y (P := fun w => P w ∨ R w) (Or.inl p), CTP_y p]
      by_cases r : R n
      · rw [CTP_y r]; omega
      · rw [CTP_n r]; omega
    · by_cases r : R n
      · rw [CTP_y (P := fun w => P w ∨ R w) (Or.inr r), CTP_n p, CTP_y r]; omega
      · rw [CTP_n (P := fun w => P w ∨ R w) (fun h => h.elim p r), CTP_n p, CTP_n r]; exact ih
theorem CTP_one {P : Nat → Prop} {a : Nat} (h : ¬ P a) : ∀ n : Nat, CTP (fun w => P w ∨ w = a) n = CTP P n + (if a < n then 1 else 0) := by
  intro n
  induction n with
  | zero => rfl
  | succ n ih =>
    by_cases e : n = a
    · rw [CTP_y (P := fun w => P w ∨ w = a) (Or.inr e), ih, CTP_n (by rw [e]; exact h), if_neg (show ¬ a < n by omega), if_pos (show a < n + 1 by omega)]
      omega
    · by_cases p : P n
      · rw [CTP_y (P := fun w => P w ∨ w = a) (Or.inl p), CTP_y p, ih]
        by_cases q : a < n
        · rw [if_pos q, if_pos (show a < n + 1 by omega)]
        · rw [if_neg q, if_neg (show ¬ a < n + 1 by omega)]; omega
      · rw [CTP_n (P := fun w => P w ∨ w = a) (fun x => x.elim p e), CTP_n p, ih]
        by_cases q : a < n
        · rw [if_pos q, if_pos (show a < n + 1 by omega)]
        · rw [if_neg q, if_neg (show ¬ a < n + 1 by omega)]
theorem CTP_enu {P : Nat → Prop} {a : Nat → Nat} {m N : Nat} (h1 : ∀ x, x < m → a x < N ∧ P (a x)) (h2 : ∀ x y, x < y → y < m → a x < a y) (h3 : ∀ w, w < N → P w → ∃ x, x < m ∧ a x = w) : (∀ x : Nat, x < m → CTP P (a x) = (x : Int)) ∧ CTP P N = (m : Int) := by
  have mono : ∀ x y, y < m → a x < a y → x < m → x < y := by
    intro x y hy h hx
    by_cases e : x = y
    · rw [e] at h; omega
    · by_cases g : y < x
      · have := h2 y x g hx
        omega
      · omega
  have A : ∀ x : Nat, x < m → CTP P (a x) = (x : Int) := by
    intro x
    induction x with
    | zero =>
      intro h
      refine CTP_st (P := P) (a := 0) (a 0) (by omega) (fun w _ q r => ?_)
      obtain ⟨y, y1, y2⟩ := h3 w (by have := (h1 0 h).1; omega) r
      have := mono y 0 h (by omega) y1
      omega
    | succ x ih =>
      intro h
      have i := ih (by omega)
      have l := h2 x (x + 1) (by omega) h
      have e : CTP P (a (x + 1)) = CTP P (a x + 1) := by
        refine CTP_st (P := P) (a := a x + 1) (a (x + 1)) (by omega) (fun w p q r => ?_)
        obtain ⟨y, y1, y2⟩ := h3 w (by have := (h1 (x + 1) h).1; omega) r
        have k1 := mono y (x + 1) h (by omega) y1
        have k2 := mono x y y1 (by omega) (by omega)
        omega
      rw [e, CTP_y (h1 x (by omega)).2, i]
      omega
  refine ⟨A, ?_⟩
  by_cases hm : m = 0
  · have e : CTP P N = CTP P 0 := by
      refine CTP_st (P := P) (a := 0) N (by omega) (fun w _ q r => ?_)
      obtain ⟨y, y1, _⟩ := h3 w q r
      omega
    rw [e, hm]
    rfl
  · have i := A (m - 1) (by omega)
    have b := h1 (m - 1) (by omega)
    have e : CTP P N = CTP P (a (m - 1) + 1) := by
      refine CTP_st (P := P) (a := a (m - 1) + 1) N (by omega) (fun w p q r => ?_)
      obtain ⟨y, y1, y2⟩ := h3 w q r
      have k2 := mono (m - 1) y y1 (by omega) (by omega)
      omega
    rw [e, CTP_y b.2, i]
    omega
def NST (n : Nat) (C : Nat → Nat) (P : Nat → Nat → Nat) (l i : Nat) : Prop := i < n ∧ l ≤ C i ∧ (i = 0 ∨ ¬ (l ≤ C (i - 1) ∧ P l (i - 1) = P l i))
def EST (n : Nat) (C : Nat → Nat) (P : Nat → Nat → Nat) (l i : Nat) : Prop := i < n ∧ (C i = l ∨ NST n C P (l + 1) i)
def IsN (n : Nat) (C : Nat → Nat) (P : Nat → Nat → Nat) (w : Nat) : Prop := NST n C P (w / 64) (w % 64)
def IsE (n : Nat) (C : Nat → Nat) (P : Nat → Nat → Nat) (w : Nat) : Prop := EST n C P (w / 64) (w % 64)
def IsL (n : Nat) (C : Nat → Nat) (w : Nat) : Prop := w % 64 < n ∧ C (w % 64) = w / 64
noncomputable def NB (n : Nat) (C : Nat → Nat) (P : Nat → Nat → Nat) (w : Nat) : Int := CTP (IsN n C P) w
noncomputable def EB (n : Nat) (C : Nat → Nat) (P : Nat → Nat → Nat) (w : Nat) : Int := CTP (IsE n C P) w
noncomputable def LB (n : Nat) (C : Nat → Nat) (w : Nat) : Int := CTP (IsL n C) w
def GRD (n : Nat) (C L : Nat → Nat) (P : Nat → Nat → Nat) : Prop :=
  n ≤ 64 ∧ (∀ i, i < n → C i ≤ L i ∧ 1 ≤ L i ∧ L i ≤ 8 ∧ C i ≤ 7) ∧ (∀ l i j, l < 8 → P (l + 1) i = P (l + 1) j → P l i = P l j) ∧ (∀ l i j, i ≤ j → j < n → P l i ≤ P l j) ∧
  (∀ l i j, l ≤ 8 → i < j → j < n → l ≤ L i → l ≤ L j → P l i = P l j → ∀ k, i ≤ k → k ≤ j → l ≤ C k ∧ P l k = P l i) ∧
  (∀ l i, i < n → 1 ≤ l → l ≤ C i → (1 ≤ i ∧ l ≤ L (i - 1) ∧ P l (i - 1) = P l i) ∨ (i + 1 < n ∧ l ≤ L (i + 1) ∧ P l (i + 1) = P l i)) ∧
  (∀ l i j, i < j → j < n → l = L j → l ≤ L i → P l i ≠ P l j) ∧ ∀ i j, P 0 i = P 0 j
theorem gd1 (l : Nat) {i : Nat} (h : i < 64) : (64 * l + i) / 64 = l := by omega
theorem gd2 (l : Nat) {i : Nat} (h : i < 64) : (64 * l + i) % 64 = i := by omega
theorem IsN_at {n : Nat} {C : Nat → Nat} {P : Nat → Nat → Nat} {l i : Nat} (h : i < 64) : IsN n C P (64 * l + i) ↔ NST n C P l i := by
  unfold IsN
  rw [gd1 l h, gd2 l h]
theorem IsE_at {n : Nat} {C : Nat → Nat} {P : Nat → Nat → Nat} {l i : Nat} (h : i < 64) : IsE n C P (64 * l + i) ↔ EST n C P l i := by
  unfold IsE
  rw [gd1 l h, gd2 l h]
theorem IsL_at {n : Nat} {C : Nat → Nat} {l i : Nat} (h : i < 64) : IsL n C (64 * l + i) ↔ (i < n ∧ C i = l) := by
  unfold IsL
  rw [gd1 l h, gd2 l h]
theorem EST_c {n : Nat} {C : Nat → Nat} {P : Nat → Nat → Nat} {l i : Nat} (h : EST n C P l i) : i < n ∧ l ≤ C i := by
  rcases h.2 with e | e
  · exact ⟨h.1, by omega⟩
  · exact ⟨h.1, by have := e.2.1; omega⟩
theorem IsL_E {n : Nat} {C : Nat → Nat} {P : Nat → Nat → Nat} {w : Nat} (h : IsL n C w) : IsE n C P w := ⟨h.1, Or.inl h.2⟩
theorem GRP_st {n : Nat} {C : Nat → Nat} {P : Nat → Nat → Nat} (hn : n ≤ 64) {l : Nat} : ∀ i : Nat, i < n → l ≤ C i → ∃ s, s ≤ i ∧ NST n C P l s ∧ NB n C P (64 * l + i + 1) = NB n C P (64 * l + s) + 1 ∧ ∀ k, s ≤ k → k ≤ i → l ≤ C k ∧ P l k = P l s := by
  intro i
  induction i with
  | zero =>
    intro h c
    have hs : NST n C P l 0 := ⟨h, c, Or.inl rfl⟩
    refine ⟨0, Nat.le_refl _, hs, CTP_y ((IsN_at (by omega)).mpr hs), fun k _ k2 => ?_⟩
    rw [show k = 0 by omega]
    exact ⟨c, rfl⟩
  | succ i ih =>
    intro h c
    by_cases hs : NST n C P l (i + 1)
    · refine ⟨i + 1, Nat.le_refl _, hs, CTP_y ((IsN_at (by omega)).mpr hs), fun k k1 k2 => ?_⟩
      rw [show k = i + 1 by omega]
      exact ⟨c, rfl⟩
    · have q : l ≤ C i ∧ P l i = P l (i + 1) := by
        apply Classical.byContradiction
        intro z
        exact hs ⟨h, c, Or.inr z⟩
      obtain ⟨s, s1, s2, s3, s4⟩ := ih (by omega) q.1
      refine ⟨s, by omega, s2, ?_, fun k k1 k2 => ?_⟩
      · rw [← s3]
        exact CTP_n (fun z => hs ((IsN_at (l := l) (by omega)).mp z))
      · by_cases e : k = i + 1
        · rw [e]
          exact ⟨c, by rw [← q.2]; exact (s4 i s1 (Nat.le_refl _)).2⟩
        · exact s4 k k1 (by omega)
theorem NST_one {n : Nat} {C : Nat → Nat} {P : Nat → Nat → Nat} {l s t i : Nat} (h : NST n C P l s) (h2 : NST n C P l t) (p : s ≤ i) (q : t ≤ i) (a : ∀ k, s ≤ k → k ≤ i → l ≤ C k ∧ P l k = P l s) (b : ∀ k, t ≤ k → k ≤ i → l ≤ C k ∧ P l k = P l t) : s = t := by
  by_cases x : s < t
  · exfalso
    have a1 := a (t - 1) (by omega) (by omega)
    have a2 := a t (by omega) q
    rcases h2.2.2 with e | e
    · omega
    · exact e ⟨a1.1, by rw [a1.2, a2.2]⟩
  · by_cases y : t < s
    · exfalso
      have b1 := b (s - 1) (by omega) (by omega)
      have b2 := b s (by omega) p
      rcases h.2.2 with e | e
      · omega
      · exact e ⟨b1.1, by rw [b1.2, b2.2]⟩
    · omega
def GRQ (n : Nat) (C : Nat → Nat) (P : Nat → Nat → Nat) (l s e m : Nat) : Prop := s < e ∧ e ≤ n ∧ (∀ k, s ≤ k → k < e → l ≤ C k ∧ P l k = P l s) ∧ (e < m → ¬ (l ≤ C e ∧ P l e = P l s))
theorem GRQ_one {n : Nat} {C : Nat → Nat} {P : Nat → Nat → Nat} {l s e e2 : Nat} (h : GRQ n C P l s e n) (h2 : GRQ n C P l s e2 n) : e = e2 := by
  by_cases x : e < e2
  · exact absurd (h2.2.2.1 e (by have := h.1; omega) x) (h.2.2.2 (by have := h2.2.1; omega))
  · by_cases y : e2 < e
    · exact absurd (h.2.2.1 e2 (by have := h2.1; omega) y) (h2.2.2.2 (by have := h.2.1; omega))
    · omega
/-! behind a group of leaves, up to the next node, nothing begins -/
theorem GAP {n : Nat} {C : Nat → Nat} {P : Nat → Nat → Nat} (hn : n ≤ 64) {l e b : Nat} (he : e ≤ 64) (hc : e < n → l ≤ C e → NST n C P l e) (hN : ∀ w, 64 * l + e ≤ w → w < b → ¬ IsN n C P w) {m k : Nat} (h1 : 64 * l + e ≤ 64 * m + k) (h2 : 64 * m + k < b) (hk : k < n) (hm : m ≤ C k) : False := by
  obtain ⟨s, s1, s2, _, s4⟩ := GRP_st (P := P) hn k hk hm
  by_cases x : 64 * l + e ≤ 64 * m + s
  · exact hN (64 * m + s) x (by omega) ((IsN_at (by omega)).mpr s2)
  · have em : m = l := by omega
    subst em
    have q := s4 e (by omega) (by omega)
    have q1 := s4 (e - 1) (by omega) (by omega)
    rcases (hc (by omega) q.1).2.2 with z | z
    · omega
    · exact z ⟨q1.1, by rw [q1.2, q.2]⟩
theorem EB_gap {n : Nat} {C : Nat → Nat} {P : Nat → Nat → Nat} (hn : n ≤ 64) {l e b : Nat} (he : e ≤ 64) (hc : e < n → l ≤ C e → NST n C P l e) (hb : 64 * l + e ≤ b) (hN : ∀ w, 64 * l + e ≤ w → w < b → ¬ IsN n C P w) : EB n C P b = EB n C P (64 * l + e) := by
  refine CTP_st b hb (fun w p q r => ?_)
  have c := EST_c r
  have d : 64 * (w / 64) + w % 64 = w := by omega
  exact GAP hn he hc hN (m := w / 64) (k := w % 64) (by omega) (by omega) c.1 c.2
theorem GRQ_cl {n : Nat} {C : Nat → Nat} {P : Nat → Nat → Nat} {l s e : Nat} (h : GRQ n C P l s e n) : e < n → l ≤ C e → NST n C P l e := by
  intro h1 h2
  refine ⟨h1, h2, Or.inr (fun z => ?_)⟩
  have a := h.1
  have q := h.2.2.1 (e - 1) (by omega) (by omega)
  exact h.2.2.2 h1 ⟨h2, by rw [← z.2, q.2]⟩
/-! what a node of a level from the first on needs: two leaves -/
theorem NST_two {n : Nat} {C L : Nat → Nat} {P : Nat → Nat → Nat} (G : GRD n C L P) {l s : Nat} (hl : 1 ≤ l) (h : NST n C P l s) : s + 1 < n ∧ l ≤ C (s + 1) ∧ P l (s + 1) = P l s := by
  obtain ⟨_, a, _, _, r, b, _⟩ := G
  have c := a s h.1
  have nb : ∀ i j : Nat, i < j → j < n → l ≤ L i → l ≤ L j → P l i = P l j → (l ≤ C i ∧ P l i = P l i) ∧ l ≤ C j ∧ P l j = P l i := by
    intro i j x y z t u
    have e8 : l ≤ 8 := by have := h.2.1; omega
    exact ⟨r l i j e8 x y z t u i (Nat.le_refl _) (by omega), r l i j e8 x y z t u j (by omega) (Nat.le_refl _)⟩
  rcases b l s h.1 hl h.2.1 with ⟨b1, b2, b3⟩ | ⟨b1, b2, b3⟩
  · exfalso
    have q := nb (s - 1) s (by omega) h.1 b2 (by have := h.2.1; omega) b3
    rcases h.2.2 with e | e
    · omega
    · exact e ⟨q.1.1, b3⟩
  · have q := nb s (s + 1) (by omega) b1 (by have := h.2.1; omega) b2 b3.symm
    exact ⟨b1, q.2.1, b3⟩
theorem NST_adj {n : Nat} {C L : Nat → Nat} {P : Nat → Nat → Nat} (G : GRD n C L P) {l s : Nat} (hl : 1 ≤ l) (h : NST n C P l s) : ¬ NST n C P l (s + 1) := by
  intro h2
  have q := NST_two G hl h
  rcases h2.2.2 with e | e
  · omega
  · exact e ⟨h.2.1, q.2.2.symm⟩
theorem half {Q : Nat → Prop} (h : ∀ i, Q i → ¬ Q (i + 1)) : ∀ i : Nat, 2 * CTP Q i ≤ (i : Int) + 1 ∧ 2 * CTP Q (i + 1) ≤ (i : Int) + 2 := by
  intro i
  induction i with
  | zero =>
    have z : CTP Q 0 = 0 := rfl
    by_cases q : Q 0
    · rw [CTP_y q]; omega
    · rw [CTP_n q]; omega
  | succ i ih =>
    refine ⟨by omega, ?_⟩
    by_cases q : Q (i + 1)
    · have q0 : ¬ Q i := fun x => h i x q
      rw [CTP_y q, CTP_n q0]
      omega
    · rw [CTP_n q]
      omega
theorem NB_row {n : Nat} {C : Nat → Nat} {P : Nat → Nat → Nat} {l : Nat} : ∀ i : Nat, i ≤ 64 → NB n C P (64 * l + i) = NB n C P (64 * l) + CTP (NST n C P l) i := by
  intro i
  induction i with
  | zero => intro _; exact (Int.add_zero _).symm
  | succ i ih =>
    intro h
    have e := ih (by omega)
    by_cases q : NST n C P l i
    · rw [CTP_y q, show NB n C P (64 * l + (i + 1)) = NB n C P (64 * l + i) + 1 from CTP_y ((IsN_at (by omega)).mpr q), e]
      omega
    · rw [CTP_n q, show NB n C P (64 * l + (i + 1)) = NB n C P (64 * l + i) from CTP_n (fun z => q ((IsN_at (by omega)).mp z)), e]
theorem NST_root {n : Nat} {C L : Nat → Nat} {P : Nat → Nat → Nat} (G : GRD n C L P) {i : Nat} (h : NST n C P 0 i) : i = 0 := by
  rcases h.2.2 with e | e
  · exact e
  · exact absurd ⟨Nat.zero_le _, G.2.2.2.2.2.2.2 _ _⟩ e
theorem NB_lev {n : Nat} {C L : Nat → Nat} {P : Nat → Nat → Nat} (G : GRD n C L P) : ∀ l : Nat, NB n C P (64 * l) ≤ 32 * (l : Int) ∧ (1 ≤ l → NB n C P (64 * l) ≤ 32 * (l : Int) - 31) := by
  intro l
  induction l with
  | zero => exact ⟨Int.le_refl _, fun h => by omega⟩
  | succ l ih =>
    have e := NB_row (n := n) (C := C) (P := P) (l := l) 64 (Nat.le_refl _)
    rw [show 64 * (l + 1) = 64 * l + 64 by omega, e]
    by_cases z : l = 0
    · subst z
      have k : CTP (NST n C P 0) 64 = CTP (NST n C P 0) 1 := CTP_st 64 (by omega) (fun w p _ r => by have := NST_root G r; omega)
      have k2 := CTP_rng (NST n C P 0) 1
      have k3 : NB n C P (64 * 0) = 0 := rfl
      omega
    · have k := (half (fun i h => NST_adj G (show 1 ≤ l by omega) h) 64).1
      have k2 := ih.2 (by omega)
      omega
theorem NB_le {n : Nat} {C L : Nat → Nat} {P : Nat → Nat → Nat} (G : GRD n C L P) {l i : Nat} (hl : l ≤ 7) (hi : i ≤ 64) : 0 ≤ NB n C P (64 * l + i) ∧ NB n C P (64 * l + i) ≤ 225 := by
  have e := NB_row (n := n) (C := C) (P := P) (l := l) 64 (Nat.le_refl _)
  have m : NB n C P (64 * l + i) ≤ NB n C P (64 * l + 64) := CTP_le _ (by omega)
  have m2 : NB n C P (64 * l + 64) ≤ NB n C P (64 * 8) := CTP_le _ (by omega)
  have k := (NB_lev G 8).2 (by omega)
  exact ⟨(CTP_rng _ _).1, by omega⟩
/-! each leaf ends once -/
theorem LB_all {C : Nat → Nat} : ∀ n : Nat, n ≤ 64 → (∀ i, i < n → C i ≤ 7) → LB n C 512 = (n : Int) := by
  intro n
  induction n with
  | zero =>
    intro _ _
    exact CTP_st (P := IsL 0 C) (a := 0) 512 (by omega) (fun w _ _ r => by have := r.1; omega)
  | succ n ih =>
    intro h c
    have e := ih (by omega) (fun i hi => c i (by omega))
    have k : LB (n + 1) C 512 = CTP (fun w => IsL n C w ∨ w = 64 * C n + n) 512 := by
      refine CTP_congr 512 (fun w hw => ⟨fun q => ?_, fun q => ?_⟩)
      · by_cases x : w % 64 = n
        · refine Or.inr ?_
          have := q.2
          rw [x] at this
          omega
        · exact Or.inl ⟨by have := q.1; omega, q.2⟩
      · rcases q with q | q
        · exact ⟨by have := q.1; omega, q.2⟩
        · have a1 : w % 64 = n := by omega
          have a2 : w / 64 = C n := by omega
          exact ⟨by omega, by rw [a1, a2]⟩
    have c1 := c n (by omega)
    rw [k, CTP_one (P := IsL n C) (a := 64 * C n + n) (fun z => by have := z.1; omega) 512, if_pos (show 64 * C n + n < 512 by omega)]
    have e2 : CTP (IsL n C) 512 = (n : Int) := e
    omega
theorem EB_le {n : Nat} {C L : Nat → Nat} {P : Nat → Nat → Nat} (G : GRD n C L P) {w : Nat} (hw : w ≤ 512) : 0 ≤ EB n C P w ∧ EB n C P w ≤ 289 := by
  refine ⟨(CTP_rng _ _).1, ?_⟩
  have h1 : EB n C P w ≤ EB n C P 512 := CTP_le _ hw
  have h2 : EB n C P 512 = CTP (fun v => IsL n C v ∨ IsN n C P (v + 64)) 512 := by
    refine CTP_congr 512 (fun v _ => ⟨fun q => ?_, fun q => ?_⟩)
    · rcases q.2 with z | z
      · exact Or.inl ⟨q.1, z⟩
      · refine Or.inr ?_
        unfold IsN
        rw [show (v + 64) / 64 = v / 64 + 1 by omega, show (v + 64) % 64 = v % 64 by omega]
        exact z
    · rcases q with z | z
      · exact IsL_E z
      · unfold IsN at z
        rw [show (v + 64) / 64 = v / 64 + 1 by omega, show (v + 64) % 64 = v % 64 by omega] at z
        exact ⟨z.1, Or.inr z⟩
  have h3 := CTP_or (P := IsL n C) (R := fun v => IsN n C P (v + 64)) 512
  have h4 : CTP (IsL n C) 512 = (n : Int) := LB_all n G.1 (fun i hi => (G.2.1 i hi).2.2.2)
  have sh : ∀ v : Nat, CTP (fun v => IsN n C P (v + 64)) v = NB n C P (v + 64) - NB n C P 64 := by
    intro v
    induction v with
    | zero => rw [show NB n C P (0 + 64) = NB n C P 64 from rfl]; show (0 : Int) = _; omega
    | succ v ih =>
      by_cases q : IsN n C P (v + 64)
      · rw [CTP_y (P := fun v => IsN n C P (v + 64)) q, ih, show NB n C P (v + 1 + 64) = NB n C P (v + 64) + 1 from by rw [show v + 1 + 64 = (v + 64) + 1 by omega]; exact CTP_y q]
        omega
      · rw [CTP_n (P := fun v => IsN n C P (v + 64)) q, ih, show NB n C P (v + 1 + 64) = NB n C P (v + 64) from by rw [show v + 1 + 64 = (v + 64) + 1 by omega]; exact CTP_n q]
  have h5 := sh 512
  have h6 : NB n C P (512 + 64) = NB n C P 512 := CTP_st _ (by omega) (fun v p q r => by
    have a := r.1
    have b := r.2.1
    have c := (G.2.1 _ a).2.2.2
    omega)
  have h7 := NB_le G (l := 7) (i := 64) (by omega) (by omega)
  have h8 : NB n C P (64 * 7 + 64) = NB n C P 512 := rfl
  have h9 : 0 ≤ NB n C P 64 := (CTP_rng _ _).1
  have g := G.1
  omega
/-! the grid of sorted keys -/
theorem cl_up {x t l : Nat} (h : PX x t * 2 ^ (64 - 8 * t) = x) (htl : t ≤ l) : PX x l * 2 ^ (64 - 8 * l) = x := by
  have d : 2 ^ (64 - 8 * l) ∣ 2 ^ (64 - 8 * t) := Nat.pow_dvd_pow 2 (by omega)
  have d2 : 2 ^ (64 - 8 * t) ∣ x := ⟨PX x t, by rw [Nat.mul_comm]; exact h.symm⟩
  exact Nat.div_mul_cancel (Nat.dvd_trans d d2)
theorem KLT_ub {a b : Int64} {n m : Int32} (h : KLT a n b m) : ub a ≤ ub b := by
  rcases h with h | ⟨h, _⟩
  · omega
  · rw [h]; exact Nat.le_refl _
theorem SRT_ub {f : Nat → Int64} {g : Nat → Int32} {c : Int} (h : SRT f g c) {i j : Nat} (hij : i ≤ j) (hj : (j : Int) < c) : ub (f i) ≤ ub (f j) := by
  by_cases e : i = j
  · rw [e]; exact Nat.le_refl _
  · exact KLT_ub (h.1 i j (by omega) hj)
/-- a key between two that have l bytes alike has l bytes -/
theorem SRT_len {f : Nat → Int64} {g : Nat → Int32} {c : Int} (h : SRT f g c) (hc : CLN f g c) {l i k : Nat} (hik : i < k) (hk : (k : Int) < c) (hl : l ≤ (g i).toInt.toNat) (he : PX (ub (f i)) l = PX (ub (f k)) l) : l < (g k).toInt.toNat := by
  apply Classical.byContradiction
  intro hn
  have c1 := cl_up (hc k hk) (show (g k).toInt.toNat ≤ l by omega)
  rw [← he] at c1
  have c2 := PX_mul (ub (f i)) l
  rcases h.1 i k hik hk with q | ⟨q, q2⟩
  · omega
  · have r := h.2 k hk
    omega
theorem GRD_of {f : Nat → Int64} {g : Nat → Int32} {c : Int} (h : SRT f g c) (hc : CLN f g c) (h64 : c ≤ 64) : GRD c.toNat (COM f g c) (fun i => (g i).toInt.toNat) (fun l i => PX (ub (f i)) l) := by
  have nbr : ∀ l i : Nat, (i : Int) < c → 1 ≤ l → l ≤ COM f g c i → (1 ≤ i ∧ l ≤ (g (i - 1)).toInt.toNat ∧ PX (ub (f (i - 1))) l = PX (ub (f i)) l) ∨ (((i + 1 : Nat) : Int) < c ∧ l ≤ (g (i + 1)).toInt.toNat ∧ PX (ub (f (i + 1))) l = PX (ub (f i)) l) := by
    intro l i hi h1 hC
    have use : ∀ j : Nat, (j : Int) < c → l ≤ ALR f g i j → l ≤ (g j).toInt.toNat ∧ PX (ub (f j)) l = PX (ub (f i)) l := by
      intro j hj hA
      have s := ALR_spec f g i j
      have b := h.2 i hi
      refine ⟨by omega, (PX_dn hA (by omega) s.2.1).symm⟩
    unfold COM at hC
    by_cases z : i = 0
    · rw [if_pos z] at hC
      by_cases y : ((i + 1 : Nat) : Int) < c
      · rw [if_pos y] at hC
        exact Or.inr ⟨y, use (i + 1) y (by omega)⟩
      · rw [if_neg y] at hC
        omega
    · rw [if_neg z] at hC
      by_cases x : l ≤ ALR f g i (i - 1)
      · exact Or.inl ⟨by omega, use (i - 1) (by omega) x⟩
      · by_cases y : ((i + 1 : Nat) : Int) < c
        · rw [if_pos y] at hC
          exact Or.inr ⟨y, use (i + 1) y (by omega)⟩
        · rw [if_neg y] at hC
          omega
  have fst : ∀ l i j : Nat, i < j → (j : Int) < c → l = (g j).toInt.toNat → l ≤ (g i).toInt.toNat → PX (ub (f i)) l ≠ PX (ub (f j)) l := by
    intro l i j hij hj hl hli he
    have := SRT_len h hc hij hj hli he
    omega
  have run : ∀ l i j : Nat, l ≤ 8 → i < j → (j : Int) < c → l ≤ (g i).toInt.toNat → l ≤ (g j).toInt.toNat → PX (ub (f i)) l = PX (ub (f j)) l → ∀ k, i ≤ k → k ≤ j → l ≤ COM f g c k ∧ PX (ub (f k)) l = PX (ub (f i)) l := by
    intro l i j h8 hij hj hli hlj he
    have same : ∀ k, i ≤ k → k ≤ j → PX (ub (f k)) l = PX (ub (f i)) l ∧ l ≤ (g k).toInt.toNat := by
      intro k k1 k2
      have a := PX_le l (SRT_ub h k1 (by omega))
      have b := PX_le l (SRT_ub h k2 hj)
      refine ⟨by omega, ?_⟩
      by_cases e : i = k
      · rw [← e]; exact hli
      · have := SRT_len h hc (show i < k by omega) (by omega) hli (by omega)
        omega
    have up : ∀ k, i ≤ k → k + 1 ≤ j → l ≤ ALR f g k (k + 1) := by
      intro k k1 k2
      have a := same k k1 (by omega)
      have b := same (k + 1) (by omega) k2
      exact (ALR_spec f g k (k + 1)).2.2 l (by omega) (by rw [a.1, b.1])
    intro k k1 k2
    refine ⟨?_, (same k k1 k2).1⟩
    by_cases e : k = j
    · have q := up (k - 1) (by omega) (by omega)
      have q2 := COM_dn (f := f) (g := g) (c := c) (i := k - 1)
      rw [show k - 1 + 1 = k by omega] at q q2
      omega
    · have q := up k k1 (by omega)
      have q2 := COM_up (f := f) (g := g) (c := c) (i := k) (by omega)
      omega
  refine ⟨by omega, fun i hi => ?_, fun l i j hl he => PX_dn (show l ≤ l + 1 by omega) (by omega) he, fun l i j hij hj => PX_le l (SRT_ub h hij (by omega)), fun l i j h8 hij hj a b e => run l i j h8 hij (by omega) a b e, fun l i hi h1 hC => ?_, fun l i j hij hj hl hli => fst l i j hij (by omega) hl hli, fun i j => ?_⟩
  · have b := h.2 i (by omega)
    have c1 := COM_le f g c i
    refine ⟨c1, by show 1 ≤ (g i).toInt.toNat; omega, by show (g i).toInt.toNat ≤ 8; omega, ?_⟩
    apply Classical.byContradiction
    intro hn
    have e8 : (g i).toInt = 8 := by omega
    have cont : ∀ x y : Nat, x < y → (y : Int) < c → 8 ≤ (g x).toInt.toNat → 8 ≤ (g y).toInt.toNat → PX (ub (f x)) 8 = PX (ub (f y)) 8 → False := by
      intro x y hxy hy a b e
      have bx := h.2 x (by omega)
      have bz := h.2 y hy
      rw [PX_8, PX_8] at e
      rcases h.1 x y hxy hy with q | ⟨_, q⟩
      · omega
      · omega
    rcases nbr 8 i (by omega) (by omega) (by omega) with ⟨n1, n2, n3⟩ | ⟨n1, n2, n3⟩
    · exact cont (i - 1) i (by omega) (by omega) n2 (by omega) n3
    · exact cont i (i + 1) (by omega) n1 (by omega) n2 n3.symm
  · rcases nbr l i (by omega) h1 hC with ⟨n1, n2, n3⟩ | ⟨n1, n2, n3⟩
    · exact Or.inl ⟨n1, n2, n3⟩
    · exact Or.inr ⟨by omega, n2, n3⟩
  · show PX (ub (f i)) 0 = PX (ub (f j)) 0
    rw [PX_0 (ub_lt _), PX_0 (ub_lt _)]
/-! where a branch begins -/
theorem EST_iff {n : Nat} {C L : Nat → Nat} {P : Nat → Nat → Nat} (G : GRD n C L P) {l s i : Nat} (hs : NST n C P l s) (hg : ∀ k, s ≤ k → k ≤ i → l ≤ C k ∧ P l k = P l s) (hsi : s ≤ i) (hin : i < n) : EST n C P l i ↔ (L i = l ∨ i = s ∨ L (i - 1) = l ∨ P (l + 1) (i - 1) ≠ P (l + 1) i) := by
  obtain ⟨_, a, dn, _, run, _, _, _⟩ := G
  have ai := a i hin
  have gi := (hg i hsi (Nat.le_refl _)).1
  constructor
  · intro h
    apply Classical.byContradiction
    intro hn
    have n1 : ¬ L i = l := fun z => hn (Or.inl z)
    have n2 : ¬ i = s := fun z => hn (Or.inr (Or.inl z))
    have n3 : ¬ L (i - 1) = l := fun z => hn (Or.inr (Or.inr (Or.inl z)))
    have n4 : P (l + 1) (i - 1) = P (l + 1) i := Classical.byContradiction (fun z => hn (Or.inr (Or.inr (Or.inr z))))
    have gp := (hg (i - 1) (by omega) (by omega)).1
    have ap := a (i - 1) (by omega)
    have r1 := (run (l + 1) (i - 1) i (by omega) (by omega) hin (by omega) (by omega) n4 (i - 1) (Nat.le_refl _) (by omega)).1
    have r2 := (run (l + 1) (i - 1) i (by omega) (by omega) hin (by omega) (by omega) n4 i (by omega) (Nat.le_refl _)).1
    rcases h.2 with e | e
    · omega
    · rcases e.2.2 with z | z
      · omega
      · exact z ⟨r1, n4⟩
  · intro h
    refine ⟨hin, ?_⟩
    by_cases e : C i = l
    · exact Or.inl e
    · refine Or.inr ⟨hin, by omega, ?_⟩
      by_cases z : i = 0
      · exact Or.inl z
      · refine Or.inr (fun q => ?_)
        rcases h with h | h | h | h
        · omega
        · subst h
          rcases hs.2.2 with y | y
          · exact z y
          · exact y ⟨by omega, dn l (i - 1) i (by omega) q.2⟩
        · have ap := a (i - 1) (by omega)
          omega
        · exact h q.2
theorem END_first {n : Nat} {C L : Nat → Nat} {P : Nat → Nat → Nat} (G : GRD n C L P) {l s i : Nat} (hg : ∀ k, s ≤ k → k ≤ i → l ≤ C k ∧ P l k = P l s) (hsi : s ≤ i) (hin : i < n) (hL : L i = l) : i = s := by
  by_cases e : i = s
  · exact e
  · have as := G.2.1 s (by omega)
    have gs := (hg s (Nat.le_refl _) hsi).1
    exact absurd (hg i hsi (Nat.le_refl _)).2.symm (G.2.2.2.2.2.2.1 l s i (by omega) hin hL.symm (by omega))
/-! the nodes, as they are found -/
def NOD (n : Nat) (C : Nat → Nat) (P : Nat → Nat → Nat) (lv lf ls : Nat → Int32) (l i : Nat) : Prop := ∀ w x : Nat, w < 64 * l + i → IsN n C P w → (x : Int) = NB n C P w → (lv x).toInt = ((w / 64 : Nat) : Int) ∧ (lf x).toInt = ((w % 64 : Nat) : Int) ∧ ∃ e : Nat, (ls x).toInt = (e : Int) - ((w % 64 : Nat) : Int) ∧ GRQ n C P (w / 64) (w % 64) e (if w / 64 = l then i else n) ∧ (w / 64 = l → e ≤ i)
theorem NOD_skip {n : Nat} {C : Nat → Nat} {P : Nat → Nat → Nat} {lv lf ls : Nat → Int32} {l i : Nat} (h : NOD n C P lv lf ls l i) (hi : i < 64) (hc : C i < l) : NOD n C P lv lf ls l (i + 1) := by
  intro w x hw hN hx
  by_cases e : w = 64 * l + i
  · exfalso
    rw [e, IsN_at hi] at hN
    have := hN.2.1
    omega
  · obtain ⟨a, b, g, g1, g2, g3⟩ := h w x (by omega) hN hx
    refine ⟨a, b, g, g1, ?_, fun z => by have := g3 z; omega⟩
    by_cases z : w / 64 = l
    · rw [if_pos z] at g2 ⊢
      refine ⟨g2.1, g2.2.1, g2.2.2.1, fun q r => ?_⟩
      by_cases y : g < i
      · exact g2.2.2.2 y r
      · have k : g = i := by omega
        rw [k, z] at r
        omega
    · rw [if_neg z] at g2 ⊢
      exact g2
theorem NOD_new {n : Nat} {C : Nat → Nat} {P : Nat → Nat → Nat} {lv lf ls lv2 lf2 ls2 : Nat → Int32} {l i m : Nat} (h : NOD n C P lv lf ls l i) (hi : i < 64) (hs : NST n C P l i) (hm : (m : Int) = NB n C P (64 * l + i)) (old : ∀ x : Nat, x < m → lv2 x = lv x ∧ lf2 x = lf x ∧ ls2 x = ls x) (e1 : (lv2 m).toInt = (l : Int)) (e2 : (lf2 m).toInt = (i : Int)) (e3 : (ls2 m).toInt = 1) : NOD n C P lv2 lf2 ls2 l (i + 1) := by
  intro w x hw hN hx
  by_cases e : w = 64 * l + i
  · have ex : x = m := by rw [e] at hx; omega
    rw [e, ex, gd1 l hi, gd2 l hi]
    refine ⟨e1, e2, i + 1, by rw [e3]; omega, ?_, fun _ => Nat.le_refl _⟩
    rw [if_pos rfl]
    refine ⟨by omega, hs.1, fun k k1 k2 => ?_, fun q => by omega⟩
    rw [show k = i by omega]
    exact ⟨hs.2.1, rfl⟩
  · have lt : NB n C P w < NB n C P (64 * l + i) := CTP_lt (by omega) hN
    obtain ⟨o1, o2, o3⟩ := old x (by omega)
    obtain ⟨a, b, g, g1, g2, g3⟩ := h w x (by omega) hN hx
    rw [o1, o2, o3]
    refine ⟨a, b, g, g1, ?_, fun z => by have := g3 z; omega⟩
    by_cases z : w / 64 = l
    · rw [if_pos z] at g2 ⊢
      refine ⟨g2.1, g2.2.1, g2.2.2.1, fun q r => ?_⟩
      by_cases y : g < i
      · exact g2.2.2.2 y r
      · have k : g = i := by omega
        have g4 := g2.1
        have u := g2.2.2.1 (i - 1) (by omega) (by omega)
        rw [k] at r
        rw [z] at r u
        rcases hs.2.2 with t | t
        · omega
        · exact t ⟨u.1, by rw [u.2, r.2]⟩
    · rw [if_neg z] at g2 ⊢
      exact g2
theorem NOD_old {n : Nat} {C : Nat → Nat} {P : Nat → Nat → Nat} {lv lf ls ls2 : Nat → Int32} {l i m : Nat} (h : NOD n C P lv lf ls l i) (h64 : n ≤ 64) (hin : i < n) (hn : ¬ NST n C P l i) (hc : l ≤ C i) (hm : (m : Int) + 1 = NB n C P (64 * l + i)) (old : ∀ x : Nat, x ≠ m → ls2 x = ls x) (e3 : (ls2 m).toInt = (ls m).toInt + 1) : NOD n C P lv lf ls2 l (i + 1) := by
  have q0 : ¬ i = 0 := fun z => hn ⟨hin, hc, Or.inl z⟩
  have q : l ≤ C (i - 1) ∧ P l (i - 1) = P l i := Classical.byContradiction (fun z => hn ⟨hin, hc, Or.inr z⟩)
  obtain ⟨s, s1, s2, s3, s4⟩ := GRP_st (P := P) h64 (i - 1) (by omega) q.1
  rw [show 64 * l + (i - 1) + 1 = 64 * l + i by omega] at s3
  intro w x hw hN hx
  have ne : w ≠ 64 * l + i := by
    intro z
    rw [z, IsN_at (by omega)] at hN
    exact hn hN
  obtain ⟨a, b, g, g1, g2, g3⟩ := h w x (by omega) hN hx
  by_cases e : w = 64 * l + s
  · have ex : x = m := by rw [e] at hx; omega
    have w1 : w / 64 = l := by omega
    have w2 : w % 64 = s := by omega
    rw [w1] at a g2 g3
    rw [w2] at b g1 g2
    rw [w1, w2]
    rw [if_pos rfl] at g2
    have ge : g = i := by
      have h3 := g3 rfl
      by_cases y : g < i
      · have h1 := g2.1
        exact absurd (s4 g (by omega) (by omega)) (g2.2.2.2 y)
      · omega
    refine ⟨a, b, i + 1, by rw [ex, e3, ← ex, g1, ge]; omega, ?_, fun _ => Nat.le_refl _⟩
    rw [if_pos rfl]
    refine ⟨by omega, hin, fun k k1 k2 => ?_, fun z => by omega⟩
    by_cases y : k = i
    · rw [y]
      exact ⟨hc, by rw [← q.2]; exact (s4 (i - 1) s1 (Nat.le_refl _)).2⟩
    · exact s4 k k1 (by omega)
  · have nx : x ≠ m := by
      intro z
      refine e (CTP_inj (P := IsN n C P) hN ((IsN_at (by omega)).mpr s2) ?_)
      have t : NB n C P w = NB n C P (64 * l + s) := by omega
      exact t
    rw [old x nx]
    refine ⟨a, b, g, g1, ?_, fun z => by have := g3 z; omega⟩
    by_cases z : w / 64 = l
    · rw [if_pos z] at g2 ⊢
      refine ⟨g2.1, g2.2.1, g2.2.2.1, fun r t => ?_⟩
      by_cases y : g < i
      · exact g2.2.2.2 y t
      · have k : g = i := by have := g3 z; omega
        rw [k] at g2
        rw [z] at g2
        have hN2 : NST n C P l (w % 64) := by rw [← z]; exact hN
        have g4 := g2.1
        have one := NST_one hN2 s2 (i := i - 1) (by omega) s1 (fun t t1 t2 => g2.2.2.1 t t1 (by omega)) s4
        omega
    · rw [if_neg z] at g2 ⊢
      exact g2
theorem NB_end {n : Nat} {C : Nat → Nat} {P : Nat → Nat → Nat} (h : n ≤ 64) (l : Nat) : NB n C P (64 * (l + 1)) = NB n C P (64 * l + n) := CTP_st _ (by omega) (fun w p q r => by
  have := r.1
  omega)
theorem EB_end {n : Nat} {C : Nat → Nat} {P : Nat → Nat → Nat} (h : n ≤ 64) (l : Nat) : EB n C P (64 * (l + 1)) = EB n C P (64 * l + n) := CTP_st _ (by omega) (fun w p q r => by
  have := r.1
  omega)
theorem NOD_lev {n : Nat} {C : Nat → Nat} {P : Nat → Nat → Nat} {lv lf ls : Nat → Int32} {l : Nat} (h : NOD n C P lv lf ls l n) : NOD n C P lv lf ls (l + 1) 0 := by
  intro w x hw hN hx
  have b := hN.1
  obtain ⟨a, b, g, g1, g2, g3⟩ := h w x (by omega) hN hx
  refine ⟨a, b, g, g1, ?_, fun z => by omega⟩
  rw [if_neg (show ¬ w / 64 = l + 1 by omega)]
  by_cases z : w / 64 = l
  · rw [if_pos z] at g2
    exact g2
  · rw [if_neg z] at g2
    exact g2
/-! the leaves, read -/
def tn (X : bT1) : Nat := (b0g_count (b1g_owners X)).toInt.toNat
def tC (X : bT1) : Nat → Nat := COM (b0g_bytes (b1g_owners X)) (b0g_lengths (b1g_owners X)) (b0g_count (b1g_owners X)).toInt
def tL (X : bT1) : Nat → Nat := fun i => (b0g_lengths (b1g_owners X) i).toInt.toNat
def tP (X : bT1) : Nat → Nat → Nat := fun l i => PX (ub (b0g_bytes (b1g_owners X) i)) l
theorem tG {X : bT1} (o : LVO X) (j : J1 X) : GRD (tn X) (tC X) (tL X) (tP X) := GRD_of o.2.1 o.2.2.1 (J0g_count (J1g_owners j)).2
theorem tnn {X : bT1} (j : J1 X) : ((tn X : Nat) : Int) = (b0g_count (b1g_owners X)).toInt := by
  have := (J0g_count (J1g_owners j)).1
  unfold tn
  omega
theorem fx_lenAt {X : bT1} (o : LVO X) (j : J1 X) {a : Int32} {i : Nat} {Q : Int32 → Prop} (h0 : a.toInt = (i : Int)) (h1 : i < tn X) (hq : ∀ r : Int32, r.toInt = ((min (tC X i + 1) (tL X i) : Nat) : Int) → Q r) : wp_X1_lengthAt X a Q := by
  have jo := J0g_count (J1g_owners j)
  have t := tnn j
  have e : a.toInt.toNat = i := by omega
  unfold wp_X1_lengthAt
  refine fx_at64 (fun r p => hq r ?_)
  rw [p (by omega) (by omega)]
  have k := (o.1.2.2 i (by omega)).1.2.1
  show (b1g_lengths X a.toInt.toNat).toInt = _
  rw [e]
  exact k
theorem fx_endAt {X : bT1} (o : LVO X) (j : J1 X) {a : Int32} {i : Nat} {Q : Int32 → Prop} (h0 : a.toInt = (i : Int)) (h1 : i < tn X) (hq : ∀ r : Int32, (r = 0 ↔ ¬ tC X i = tL X i) → Q r) : wp_X1_isEnded X a Q := by
  have t := tnn j
  have ei : a.toInt.toNat = i := by omega
  refine fx_isEnded j (fun r _ p => hq r ?_)
  have e := (o.1.2.2 i (by omega)).1.1
  have b := o.2.1.2 i (by omega)
  rw [p (by omega) (by omega)]
  have k : b1g_commons X a.toNatClampNeg = b0g_lengths (b1g_owners X) a.toNatClampNeg ↔ tC X i = tL X i := by
    rw [← Int32.toInt_inj]
    show (b1g_commons X a.toInt.toNat).toInt = (b0g_lengths (b1g_owners X) a.toInt.toNat).toInt ↔ _
    rw [ei, e]
    unfold tC tL
    constructor
    · intro h
      show COM _ _ _ i = (b0g_lengths (b1g_owners X) i).toInt.toNat
      omega
    · intro h
      have h' : COM (b0g_bytes (b1g_owners X)) (b0g_lengths (b1g_owners X)) (b0g_count (b1g_owners X)).toInt i = (b0g_lengths (b1g_owners X) i).toInt.toNat := h
      omega
  rw [k]
theorem bxa (x y z : BitVec 64) : (x ^^^ y) &&& z = 0#64 ↔ x &&& z = y &&& z := by
  constructor
  · intro h
    apply BitVec.eq_of_getLsbD_eq
    intro i hi
    have q := congrArg (fun v => BitVec.getLsbD v i) h
    simp only [BitVec.getLsbD_and, BitVec.getLsbD_xor, BitVec.getLsbD_zero] at q ⊢
    revert q
    cases x.getLsbD i <;> cases y.getLsbD i <;> cases z.getLsbD i <;> decide
  · intro h
    apply BitVec.eq_of_getLsbD_eq
    intro i hi
    have q := congrArg (fun v => BitVec.getLsbD v i) h
    simp only [BitVec.getLsbD_and, BitVec.getLsbD_xor, BitVec.getLsbD_zero] at q ⊢
    revert q
    cases x.getLsbD i <;> cases y.getLsbD i <;> cases z.getLsbD i <;> decide
theorem lg0 (x : Int64) : lg_cmp x 0 = 0 ↔ x = 0 := by
  unfold lg_cmp
  by_cases h : x = 0
  · rw [h, if_neg (by decide), if_pos rfl]
    exact ⟨fun _ => rfl, fun _ => rfl⟩
  · by_cases g : x > 0
    · rw [if_pos g]
      exact ⟨fun q => absurd q (by decide), fun q => absurd q h⟩
    · rw [if_neg g, if_neg h]
      exact ⟨fun q => absurd q (by decide), fun q => absurd q h⟩
theorem xfr {a b F : Int64} {l : Int32} (h0 : 0 ≤ l.toInt) (h8 : l.toInt ≤ 8) (h1 : 1 ≤ l.toInt → l.toInt ≤ 8 → F = frontf l) (h2 : l.toInt ≤ 0 → F = 0) : lg_cmp ((a ^^^ b) &&& F) 0 = 0 ↔ PX (ub a) l.toInt.toNat = PX (ub b) l.toInt.toNat := by
  rw [lg0]
  by_cases z : l.toInt ≤ 0
  · rw [h2 z, show l.toInt.toNat = 0 by omega, PX_0 (ub_lt a), PX_0 (ub_lt b)]
    refine ⟨fun _ => rfl, fun _ => ?_⟩
    apply Int64.toBitVec_inj.mp
    show (a ^^^ b).toBitVec &&& 0#64 = 0#64
    exact BitVec.and_zero
  · have l1 : 1 ≤ l.toInt := by omega
    have e : (a ^^^ b) &&& F = 0 ↔ a &&& F = b &&& F := by
      rw [← Int64.toBitVec_inj, ← Int64.toBitVec_inj]
      exact bxa a.toBitVec b.toBitVec F.toBitVec
    rw [e, h1 l1 h8, and_front a l1 h8, and_front b l1 h8]
    have ca := ub_cut a l1 h8
    have cb := ub_cut b l1 h8
    have pos : 0 < 2 ^ (64 - 8 * l.toInt.toNat) := Nat.two_pow_pos _
    constructor
    · intro h
      rw [h] at ca
      exact Nat.eq_of_mul_eq_mul_right pos (by rw [← ca, ← cb])
    · intro h
      exact ub_inj (by rw [ca, cb, h])
def FR6 (T S : bT6) : Prop := b6g_edgeStarts T = b6g_edgeStarts S ∧ b6g_levelStarts T = b6g_levelStarts S ∧ b6g_levels T = b6g_levels S
theorem fx6_addNode {S : bT6} {a1 a2 : Int32} {m : Nat} {Q : bT6 → Prop} (hm : (b6g_nodes S).toInt = (m : Int)) (h : m < 232) (hq : ∀ u : bT6, (b6g_nodes u).toInt = (m : Int) + 1 → b6g_nodeLevels u = upd (b6g_nodeLevels S) m a1 → b6g_firstLeaves u = upd (b6g_firstLeaves S) m a2 → b6g_leafCounts u = upd (b6g_leafCounts S) m 0 → FR6 u S → Q u) : wp_X6_addNode S a1 a2 Q := by
  have em : (b6g_nodes S).toNatClampNeg = m := by
    show (b6g_nodes S).toInt.toNat = m
    omega
  unfold wp_X6_addNode
  refine ⟨fun c => ?_, fun _ => ⟨pt_in (by omega) (by omega), fun S1 e1 => ?_⟩⟩
  · simp only [pn] at c
    omega
  have n1 : b6g_nodes S1 = b6g_nodes S := by rw [e1]
  rw [n1]
  refine ⟨pt_in (by omega) (by omega), fun S2 e2 => ?_⟩
  have n2 : b6g_nodes S2 = b6g_nodes S := by rw [e2]; exact n1
  rw [n2]
  refine ⟨pt_in (by omega) (by omega), fun S3 e3 S4 e4 => ?_⟩
  have n3 : b6g_nodes S3 = b6g_nodes S := by rw [e3]; exact n2
  rw [em] at e1 e2 e3
  refine hq S4 ?_ (by rw [e4, e3, e2, e1]) (by rw [e4, e3, e2, e1]) (by rw [e4, e3, e2, e1]) (by rw [e4, e3, e2, e1]; exact ⟨rfl, rfl, rfl⟩)
  rw [e4]
  show (b6g_nodes S3 + 1).toInt = _
  rw [n3, pt_add (by rw [pl_1]; omega) (by rw [pl_1]; omega), pl_1, hm]
theorem fx6_findNodesOf {S : bT6 × bT1} {a1 : Int32} {l : Nat} {Q : (bT6 × bT1) → Prop} (o : LVO S.2) (j : J1 S.2) (hl : a1.toInt = (l : Int)) (h7 : l ≤ 7) (hn : (b6g_nodes S.1).toInt = NB (tn S.2) (tC S.2) (tP S.2) (64 * l)) (hN : NOD (tn S.2) (tC S.2) (tP S.2) (b6g_nodeLevels S.1) (b6g_firstLeaves S.1) (b6g_leafCounts S.1) l 0) (hq : ∀ u : bT6 × bT1, u.2 = S.2 → FR6 u.1 S.1 → (b6g_nodes u.1).toInt = NB (tn S.2) (tC S.2) (tP S.2) (64 * l + tn S.2) → NOD (tn S.2) (tC S.2) (tP S.2) (b6g_nodeLevels u.1) (b6g_firstLeaves u.1) (b6g_leafCounts u.1) l (tn S.2) → Q u) : wp_X6_findNodesOf S a1 Q := by
  have G := tG o j
  have jn := tnn j
  have g64 := G.1
  unfold wp_X6_findNodesOf wp_X6_findNodesOf_5
  refine ⟨fun k x1 x3 x4 V => ∃ i : Nat, x4.toInt = (i : Int) ∧ a1 = x1 ∧ V.2 = S.2 ∧ FR6 V.1 S.1 ∧ i ≤ tn S.2 ∧ (b6g_nodes V.1).toInt = NB (tn S.2) (tC S.2) (tP S.2) (64 * l + i) ∧ NOD (tn S.2) (tC S.2) (tP S.2) (b6g_nodeLevels V.1) (b6g_firstLeaves V.1) (b6g_leafCounts V.1) l i ∧ ((x3.toInt = -1 ∧ ∀ q, q < i → tC S.2 q < l) ∨ ∃ q : Nat, x3.toInt = (q : Int) ∧ q < i ∧ l ≤ tC S.2 q ∧ ∀ t, q < t → t < i → tC S.2 t < l) ∧ k = tn S.2 - i, ⟨_, 0, rfl, rfl, rfl, ⟨rfl, rfl, rfl⟩, Nat.zero_le _, hn, hN, Or.inl ⟨rfl, fun q hq => by omega⟩, rfl⟩, ?_⟩
  rintro k x1 x3 x4 V ⟨i, e4, rfl, eV, hf, hin, hm, hO, hlat, hk⟩
  suffices H : ∀ B : Int32 → Int32 → Int32 → (bT6 × bT1) → Prop, (∀ (z : Int32) (T : bT6 × bT1), T.2 = S.2 → FR6 T.1 S.1 → (b6g_nodes T.1).toInt = NB (tn S.2) (tC S.2) (tP S.2) (64 * l + (i + 1)) → NOD (tn S.2) (tC S.2) (tP S.2) (b6g_nodeLevels T.1) (b6g_firstLeaves T.1) (b6g_leafCounts T.1) l (i + 1) → ((z.toInt = -1 ∧ ∀ q, q < i + 1 → tC S.2 q < l) ∨ ∃ q : Nat, z.toInt = (q : Int) ∧ q < i + 1 ∧ l ≤ tC S.2 q ∧ ∀ t, q < t → t < i + 1 → tC S.2 t < l) → i < tn S.2 → B a1 z (x4 + 1) T) → wp_X6_findNodesOf_5b V a1 x3 x4 Q B from H _ (fun z T t1 t2 t3 t4 t5 hi => ⟨tn S.2 - (i + 1), by omega, i + 1, by rw [pt_add (by rw [pl_1]; omega) (by rw [pl_1]; omega), pl_1, e4]; omega, rfl, t1, t2, by omega, t3, t4, t5, rfl⟩)
  intro B hB
  unfold wp_X6_findNodesOf_5b wp_X1_count
  rw [eV]
  refine ⟨fun c => ?_, fun c => ?_⟩
  · simp only [pn] at c
    have e : i = tn S.2 := by omega
    rw [e] at hm hO
    exact hq V eV hf hm hO
  simp only [pn] at c
  have hi : i < tn S.2 := by omega
  have ai := G.2.1 i hi
  have nb := NB_le G h7 (i := i) (by omega)
  have skip : tC S.2 i < l → wp_X6_findNodesOf_47 V a1 x3 x4 Q B := by
    intro h
    unfold wp_X6_findNodesOf_47 wp_X6_findNodesOf_48 wp_X6_findNodesOf_134
    refine ⟨fun _ => hB x3 V eV hf ?_ (NOD_skip hO (by omega) h) ?_ hi, fun c => absurd rfl c⟩
    · rw [hm]
      exact (CTP_n (fun z => by have := ((IsN_at (by omega)).mp z).2.1; omega)).symm
    · rcases hlat with ⟨p1, p2⟩ | ⟨q, p1, p2, p3, p4⟩
      · refine Or.inl ⟨p1, fun q hq => ?_⟩
        by_cases y : q = i
        · rw [y]; exact h
        · exact p2 q (by omega)
      · refine Or.inr ⟨q, p1, by omega, p3, fun t t1 t2 => ?_⟩
        by_cases y : t = i
        · rw [y]; exact h
        · exact p4 t t1 (by omega)
  have yes : l ≤ tC S.2 i → wp_X6_findNodesOf_43 V a1 x3 x4 Q B := by
    intro hc
    have inc : ∀ T : bT6 × bT1, T.2 = S.2 → FR6 T.1 S.1 → 0 < (b6g_nodes T.1).toInt → (b6g_nodes T.1).toInt ≤ 232 → (b6g_nodes T.1).toInt = NB (tn S.2) (tC S.2) (tP S.2) (64 * l + (i + 1)) → (∀ ls2 : Nat → Int32, (∀ x : Nat, (x : Int) + 1 ≠ (b6g_nodes T.1).toInt → ls2 x = b6g_leafCounts T.1 x) → (∀ x : Nat, (x : Int) + 1 = (b6g_nodes T.1).toInt → ls2 x = b6g_leafCounts T.1 x + 1) → NOD (tn S.2) (tC S.2) (tP S.2) (b6g_nodeLevels T.1) (b6g_firstLeaves T.1) ls2 l (i + 1)) → wp_X6_findNodesOf_99 T a1 x4 Q B := by
      intro T t1 t2 t3 t4 t5 t6
      have es : (b6g_nodes T.1 - 1).toInt = (b6g_nodes T.1).toInt - 1 := by rw [pt_sub (by rw [pl_1]; omega) (by rw [pl_1]; omega), pl_1]
      have ec : (((b6g_nodes T.1 - 1).toNatClampNeg : Nat) : Int) = (b6g_nodes T.1).toInt - 1 := by rw [pt_clamp (by omega), es]
      unfold wp_X6_findNodesOf_99
      refine ⟨fun c => ?_, fun _ => ⟨fun c => ?_, fun _ => ⟨pt_in (by omega) (by omega), fun v1 ev => ⟨pt_in (by omega) (by omega), fun S2 e2 => ?_⟩⟩⟩⟩
      · simp only [pn] at c
        omega
      · simp only [pn] at c
        omega
      unfold wp_X6_findNodesOf_131 wp_X6_findNodesOf_134
      refine hB x4 S2 (by rw [e2]; exact t1) (by rw [e2]; exact t2) (by rw [e2]; exact t5) ?_ (Or.inr ⟨i, e4, by omega, hc, fun t a b => by omega⟩) hi
      rw [e2]
      refine t6 _ (fun x hx => up_n (by omega)) (fun x hx => ?_)
      have xe : x = (b6g_nodes T.1 - 1).toNatClampNeg := by omega
      rw [xe]
      show upd _ _ v1 _ = _
      rw [up_s, ev]
    have new : NST (tn S.2) (tC S.2) (tP S.2) l i → wp_X6_findNodesOf_92 V a1 x4 Q B := by
      intro hs
      obtain ⟨m, em⟩ : ∃ m : Nat, (b6g_nodes V.1).toInt = (m : Int) := ⟨(b6g_nodes V.1).toInt.toNat, by omega⟩
      have nx : NB (tn S.2) (tC S.2) (tP S.2) (64 * l + (i + 1)) = NB (tn S.2) (tC S.2) (tP S.2) (64 * l + i) + 1 := CTP_y ((IsN_at (by omega)).mpr hs)
      unfold wp_X6_findNodesOf_92
      refine fx6_addNode em (by omega) (fun u u1 u2 u3 u4 u5 S5 e5 => ?_)
      refine inc S5 (by rw [e5]; exact eV) (by rw [e5]; exact ⟨u5.1.trans hf.1, u5.2.1.trans hf.2.1, u5.2.2.trans hf.2.2⟩) (by rw [e5]; show 0 < (b6g_nodes u).toInt; omega) (by rw [e5]; show (b6g_nodes u).toInt ≤ 232; omega) (by rw [e5]; show (b6g_nodes u).toInt = _; rw [nx, u1, ← em, hm]) ?_
      rw [e5]
      intro ls2 p1 p2
      have p1' : ∀ x : Nat, (x : Int) + 1 ≠ (b6g_nodes u).toInt → ls2 x = b6g_leafCounts u x := p1
      have p2' : ∀ x : Nat, (x : Int) + 1 = (b6g_nodes u).toInt → ls2 x = b6g_leafCounts u x + 1 := p2
      show NOD _ _ _ (b6g_nodeLevels u) (b6g_firstLeaves u) ls2 l (i + 1)
      rw [u2, u3]
      refine NOD_new (m := m) hO (by omega) hs (by omega) (fun x hx => ?_) (by rw [up_s]; exact hl) (by rw [up_s]; exact e4) ?_
      · rw [up_n (by omega), up_n (by omega), p1' x (by omega), u4, up_n (by omega)]
        exact ⟨rfl, rfl, rfl⟩
      · rw [p2' m (by omega), u4, up_s]
        rfl
    have old : ¬ NST (tn S.2) (tC S.2) (tP S.2) l i → wp_X6_findNodesOf_99 V a1 x4 Q B := by
      intro hs
      have q0 : ¬ i = 0 := fun z => hs ⟨hi, hc, Or.inl z⟩
      have q : l ≤ tC S.2 (i - 1) ∧ tP S.2 l (i - 1) = tP S.2 l i := Classical.byContradiction (fun z => hs ⟨hi, hc, Or.inr z⟩)
      obtain ⟨s, s1, s2, s3, s4⟩ := GRP_st (P := tP S.2) g64 (i - 1) (by omega) q.1
      rw [show 64 * l + (i - 1) + 1 = 64 * l + i by omega] at s3
      have s5 := (NB_le G h7 (i := s) (by omega)).1
      have nx : NB (tn S.2) (tC S.2) (tP S.2) (64 * l + (i + 1)) = NB (tn S.2) (tC S.2) (tP S.2) (64 * l + i) := CTP_n (fun z => hs ((IsN_at (by omega)).mp z))
      refine inc V eV hf (by omega) (by omega) (by rw [nx]; exact hm) (fun ls2 p1 p2 => ?_)
      obtain ⟨m, em⟩ : ∃ m : Nat, (b6g_nodes V.1).toInt = (m : Int) + 1 := ⟨((b6g_nodes V.1).toInt - 1).toNat, by omega⟩
      refine NOD_old (m := m) hO g64 hi hs hc (by omega) (fun x hx => p1 x (by omega)) ?_
      obtain ⟨a, b, g, g1, g2, g3⟩ := hO (64 * l + s) m (by omega) ((IsN_at (by omega)).mpr s2) (by omega)
      have g4 := g2.2.1
      rw [p2 m (by omega), pt_add (by rw [pl_1]; omega) (by rw [pl_1]; omega), pl_1]
    unfold wp_X6_findNodesOf_43 wp_X6_findNodesOf_48
    refine ⟨fun c => absurd c (by decide), fun _ => ?_⟩
    rw [eV]
    refine fx_bytesAt (J1g_owners j) (fun r6 p6 _ => fx_bytesAt (J1g_owners j) (fun r8 p8 _ => ⟨fun c => new ?_, fun c => fx_front2 (fun r10 f1 f2 => ?_)⟩))
    · have c2 : x3.toInt = -1 := by rw [c]; rfl
      refine ⟨hi, hc, ?_⟩
      by_cases z : i = 0
      · exact Or.inl z
      · refine Or.inr (fun r => ?_)
        rcases hlat with ⟨_, p2⟩ | ⟨q, p1, _⟩
        · have := p2 (i - 1) (by omega)
          omega
        · omega
    · rcases hlat with ⟨p1, _⟩ | ⟨q, p1, p2, p3, p4⟩
      · exact absurd (Int32.toInt_inj.mp (p1.trans pl_m1.symm)) c
      · have k := xfr (a := r6) (b := r8) (l := a1) (by omega) (by omega) f1 f2
        have r6e : r6 = b0g_bytes (b1g_owners S.2) i := p6 i (by omega) (by omega)
        have r8e : r8 = b0g_bytes (b1g_owners S.2) q := p8 q (by omega) (by omega)
        have le : a1.toInt.toNat = l := by omega
        rw [r6e, r8e, le] at k
        rw [r6e, r8e]
        have k2 : PX (ub (b0g_bytes (b1g_owners S.2) i)) l = PX (ub (b0g_bytes (b1g_owners S.2) q)) l ↔ ¬ NST (tn S.2) (tC S.2) (tP S.2) l i := by
          constructor
          · intro h hs
            have run := G.2.2.2.2.1 l q i (by omega) p2 hi (by have := G.2.1 q (by omega); omega) (by omega) h.symm
            have qi : q = i - 1 := by
              apply Classical.byContradiction
              intro z
              have a := p4 (i - 1) (by omega) (by omega)
              have b := (run (i - 1) (by omega) (by omega)).1
              omega
            rcases hs.2.2 with y | y
            · omega
            · refine y ⟨by rw [← qi]; exact p3, ?_⟩
              rw [← qi]
              exact h.symm
          · intro h
            have q0 : ¬ i = 0 := fun z => h ⟨hi, hc, Or.inl z⟩
            have y : l ≤ tC S.2 (i - 1) ∧ tP S.2 l (i - 1) = tP S.2 l i := Classical.byContradiction (fun z => h ⟨hi, hc, Or.inr z⟩)
            have qi : q = i - 1 := by
              apply Classical.byContradiction
              intro z
              have a := p4 (i - 1) (by omega) (by omega)
              omega
            rw [qi]
            exact y.2.symm
        refine ⟨fun d => old (k2.mp (k.mp d)), fun d => new (Classical.byContradiction (fun z => d (k.mpr (k2.mpr z))))⟩
  refine fx_lenAt o j e4 hi (fun r14 e14 => ⟨fun c1 => yes ?_, fun c1 => fx_endAt o j e4 hi (fun r16 e16 => ⟨fun c2 => skip ?_, fun c2 => fx_lenAt o j e4 hi (fun r18 e18 => ⟨fun c3 => skip ?_, fun c3 => yes ?_⟩)⟩)⟩)
  · simp only [pn] at c1
    omega
  · simp only [pn] at c1
    have := e16.mp c2
    omega
  · have ce : tC S.2 i = tL S.2 i := Classical.byContradiction (fun z => c2 (e16.mpr z))
    simp only [pn] at c1 c3
    omega
  · have ce : tC S.2 i = tL S.2 i := Classical.byContradiction (fun z => c2 (e16.mpr z))
    simp only [pn] at c3
    omega
/-! levels -/
def LEVS (n : Nat) (C : Nat → Nat) (P : Nat → Nat → Nat) (v : Int) (l : Nat) : Prop := (v = 0 ∧ NB n C P (64 * l) = 0) ∨ ∃ q : Nat, v = (q : Int) + 1 ∧ q < l ∧ NB n C P (64 * q) < NB n C P (64 * (q + 1)) ∧ NB n C P (64 * (q + 1)) = NB n C P (64 * l)
theorem NB_mono {n : Nat} {C : Nat → Nat} {P : Nat → Nat → Nat} {a b : Nat} (h : a ≤ b) : NB n C P a ≤ NB n C P b := CTP_le b h
theorem EB_mono {n : Nat} {C : Nat → Nat} {P : Nat → Nat → Nat} {a b : Nat} (h : a ≤ b) : EB n C P a ≤ EB n C P b := CTP_le b h
theorem fx_atN {N : Nat} (hN : N < 2147483648) {f : Nat → Int32} {i : Int32} {m : Nat} {Q : Int32 → Prop} (h0 : i.toInt = (m : Int)) (h1 : m < N) (hq : Q (f m)) : wp_X8_at N f i Q := by
  have e : (Int32.ofNat N).toInt = (N : Int) := nI_toInt hN
  have em : i.toNatClampNeg = m := by
    show i.toInt.toNat = m
    omega
  unfold wp_X8_at
  rw [em]
  refine ⟨fun c => ?_, fun c => ⟨fun d => ?_, fun d => ⟨pt_in (by omega) (by omega), hq⟩⟩⟩
  · simp only [pn] at c
    omega
  · simp only [pn] at d
    omega
theorem fx6_findNodes {S : bT6 × bT1} {Q : (bT6 × bT1) → Prop} (o : LVO S.2) (j : J1 S.2) (hq : ∀ u : bT6 × bT1, u.2 = S.2 → b6g_edgeStarts u.1 = b6g_edgeStarts S.1 → (b6g_nodes u.1).toInt = NB (tn S.2) (tC S.2) (tP S.2) 512 → NOD (tn S.2) (tC S.2) (tP S.2) (b6g_nodeLevels u.1) (b6g_firstLeaves u.1) (b6g_leafCounts u.1) 8 0 → (∀ l : Nat, l ≤ 8 → (b6g_levelStarts u.1 l).toInt = NB (tn S.2) (tC S.2) (tP S.2) (64 * l)) → LEVS (tn S.2) (tC S.2) (tP S.2) (b6g_levels u.1).toInt 8 → Q u) : wp_X6_findNodes S Q := by
  have G := tG o j
  have g64 := G.1
  unfold wp_X6_findNodes
  intro S6 e6 S7 e7
  unfold wp_X6_findNodes_12
  refine ⟨fun k x2 V => ∃ l : Nat, x2.toInt = (l : Int) ∧ l ≤ 8 ∧ V.2 = S.2 ∧ b6g_edgeStarts V.1 = b6g_edgeStarts S.1 ∧ (b6g_nodes V.1).toInt = NB (tn S.2) (tC S.2) (tP S.2) (64 * l) ∧ NOD (tn S.2) (tC S.2) (tP S.2) (b6g_nodeLevels V.1) (b6g_firstLeaves V.1) (b6g_leafCounts V.1) l 0 ∧ (∀ m : Nat, m < l → (b6g_levelStarts V.1 m).toInt = NB (tn S.2) (tC S.2) (tP S.2) (64 * m)) ∧ LEVS (tn S.2) (tC S.2) (tP S.2) (b6g_levels V.1).toInt l ∧ k = 8 - l, ⟨_, 0, rfl, by omega, by rw [e7, e6], by rw [e7, e6], by rw [e7, e6]; rfl, fun w x hw => by omega, fun m hm => by omega, Or.inl ⟨by rw [e7]; rfl, rfl⟩, rfl⟩, ?_⟩
  rintro k x2 V ⟨l, e2, l8, eV, eE, hm, hO, hS, hL, hk⟩
  suffices H : ∀ B : Int32 → (bT6 × bT1) → Prop, (∀ T : bT6 × bT1, T.2 = S.2 → b6g_edgeStarts T.1 = b6g_edgeStarts S.1 → (b6g_nodes T.1).toInt = NB (tn S.2) (tC S.2) (tP S.2) (64 * (l + 1)) → NOD (tn S.2) (tC S.2) (tP S.2) (b6g_nodeLevels T.1) (b6g_firstLeaves T.1) (b6g_leafCounts T.1) (l + 1) 0 → (∀ m : Nat, m < l + 1 → (b6g_levelStarts T.1 m).toInt = NB (tn S.2) (tC S.2) (tP S.2) (64 * m)) → LEVS (tn S.2) (tC S.2) (tP S.2) (b6g_levels T.1).toInt (l + 1) → l < 8 → B (x2 + 1) T) → wp_X6_findNodes_12b V x2 Q B from H _ (fun T t1 t2 t3 t4 t5 t6 hl => ⟨8 - (l + 1), by omega, l + 1, by rw [pt_add (by rw [pl_1]; omega) (by rw [pl_1]; omega), pl_1, e2]; omega, by omega, t1, t2, t3, t4, t5, t6, rfl⟩)
  intro B hB
  have em : x2.toNatClampNeg = l := by
    show x2.toInt.toNat = l
    omega
  unfold wp_X6_findNodes_12b
  refine ⟨fun c => ⟨pt_in (by decide) (by decide), fun S1 e1 => ?_⟩, fun c => ?_⟩
  · simp only [pn] at c
    have l8' : l = 8 := by omega
    subst l8'
    refine hq S1 (by rw [e1]; exact eV) (by rw [e1]; exact eE) (by rw [e1]; exact hm) (by rw [e1]; exact hO) (fun m h => ?_) (by rw [e1]; exact hL)
    rw [e1]
    show (upd _ 8 _ m).toInt = _
    by_cases z : m = 8
    · rw [z, up_s]
      exact hm
    · rw [up_n z]
      exact hS m (by omega)
  simp only [pn] at c
  have hl : l ≤ 7 := by omega
  rw [em]
  refine ⟨pt_in (by omega) (by omega), fun S2 e2' => ?_⟩
  have s2 : S2.2 = S.2 := by rw [e2']; exact eV
  have f1 : b6g_nodes S2.1 = b6g_nodes V.1 := by rw [e2']
  have f2 : b6g_nodeLevels S2.1 = b6g_nodeLevels V.1 := by rw [e2']
  have f3 : b6g_firstLeaves S2.1 = b6g_firstLeaves V.1 := by rw [e2']
  have f4 : b6g_leafCounts S2.1 = b6g_leafCounts V.1 := by rw [e2']
  have f5 : b6g_edgeStarts S2.1 = b6g_edgeStarts V.1 := by rw [e2']
  have f6 : b6g_levels S2.1 = b6g_levels V.1 := by rw [e2']
  have f7 : b6g_levelStarts S2.1 = upd (b6g_levelStarts V.1) l (b6g_nodes V.1) := by rw [e2']
  refine fx6_findNodesOf (l := l) (by rw [s2]; exact o) (by rw [s2]; exact j) e2 hl (by rw [s2, f1]; exact hm) (by rw [s2, f2, f3, f4]; exact hO) (fun u u1 u2 u3 u4 => ?_)
  rw [s2] at u1 u3 u4
  have us : b6g_levelStarts u.1 = upd (b6g_levelStarts V.1) l (b6g_nodes V.1) := u2.2.1.trans f7
  have ue := u2.1.trans (f5.trans eE)
  have ul : b6g_levels u.1 = b6g_levels V.1 := u2.2.2.trans f6
  rw [← NB_end g64 l] at u3
  have mn := NB_mono (n := tn S.2) (C := tC S.2) (P := tP S.2) (show 64 * l ≤ 64 * (l + 1) by omega)
  have st : ∀ m : Nat, m < l + 1 → (b6g_levelStarts u.1 m).toInt = NB (tn S.2) (tC S.2) (tP S.2) (64 * m) := by
    intro m h
    rw [us]
    by_cases z : m = l
    · rw [z, up_s]
      exact hm
    · rw [up_n z]
      exact hS m (by omega)
  refine ⟨pt_in (by omega) (by omega), fun d => ?_, fun d S5 e5 => ?_⟩
  · rw [us, up_s] at d
    simp only [pn] at d
    unfold wp_X6_findNodes_54
    refine hB u u1 ue u3 (NOD_lev u4) st ?_ (by omega)
    rw [ul]
    rcases hL with ⟨a, b⟩ | ⟨q, a, b, c', d'⟩
    · exact Or.inl ⟨a, by omega⟩
    · exact Or.inr ⟨q, a, by omega, c', by omega⟩
  · rw [us, up_s] at d
    simp only [pn] at d
    unfold wp_X6_findNodes_54
    refine hB S5 (by rw [e5]; exact u1) (by rw [e5]; exact ue) (by rw [e5]; exact u3) (by rw [e5]; exact NOD_lev u4) (by rw [e5]; exact st) ?_ (by omega)
    refine Or.inr ⟨l, ?_, by omega, by omega, rfl⟩
    rw [e5]
    show (x2 + 1).toInt = _
    rw [pt_add (by rw [pl_1]; omega) (by rw [pl_1]; omega), pl_1, e2]
/-! edges -/
def OCV (f : Nat → Int64) (L : Nat → Nat) (w : Nat) : Int32 := if L (w % 64) = w / 64 then -1 else OCT (f (w % 64)) (nI (w / 64))
def EAR (n : Nat) (C L : Nat → Nat) (P : Nat → Nat → Nat) (f : Nat → Int64) (en eo el ec : Nat → Int32) (b : Nat) : Prop := ∀ w y : Nat, w < b → IsE n C P w → (y : Int) = EB n C P w → (en y).toInt = NB n C P (w + 1) - 1 ∧ eo y = OCV f L w ∧ (C (w % 64) = w / 64 → (el y).toInt = ((w % 64 : Nat) : Int)) ∧ (¬ C (w % 64) = w / 64 → (el y).toInt = -1) ∧ (ec y = -1 ↔ C (w % 64) = w / 64)
def FE6 (T S : bT6) : Prop := b6g_nodeLevels T = b6g_nodeLevels S ∧ b6g_firstLeaves T = b6g_firstLeaves S ∧ b6g_leafCounts T = b6g_leafCounts S ∧ b6g_edgeStarts T = b6g_edgeStarts S ∧ b6g_levelStarts T = b6g_levelStarts S ∧ b6g_nodes T = b6g_nodes S ∧ b6g_levels T = b6g_levels S
theorem FE6_tr {A B C : bT6} (h : FE6 A B) (g : FE6 B C) : FE6 A C := ⟨h.1.trans g.1, h.2.1.trans g.2.1, h.2.2.1.trans g.2.2.1, h.2.2.2.1.trans g.2.2.2.1, h.2.2.2.2.1.trans g.2.2.2.2.1, h.2.2.2.2.2.1.trans g.2.2.2.2.2.1, h.2.2.2.2.2.2.trans g.2.2.2.2.2.2⟩
theorem fx6_addEdge {S : bT6} {a1 a2 a3 : Int32} {m : Nat} {Q : bT6 → Prop} (hm : (b6g_edges S).toInt = (m : Int)) (h : m < 296) (hc0 : 0 ≤ (b6g_children S).toInt) (hc1 : (b6g_children S).toInt ≤ (m : Int)) (hq : ∀ (u : bT6) (v : Int32), (b6g_edges u).toInt = (m : Int) + 1 → b6g_edgeNodes u = upd (b6g_edgeNodes S) m a1 → b6g_edgeOctets u = upd (b6g_edgeOctets S) m a2 → b6g_edgeLeaves u = upd (b6g_edgeLeaves S) m a3 → b6g_edgeChildren u = upd (b6g_edgeChildren S) m v → (v = -1 ↔ ¬ a3 = -1) → 0 ≤ (b6g_children u).toInt → (b6g_children u).toInt ≤ (m : Int) + 1 → FE6 u S → Q u) : wp_X6_addEdge S a1 a2 a3 Q := by
  have em : (b6g_edges S).toNatClampNeg = m := by
    show (b6g_edges S).toInt.toNat = m
    omega
  have core : ∀ t2 : Int32, 0 ≤ t2.toInt → t2.toInt ≤ 1 → (a3 = -1 → t2.toInt = 1) → wp_X6_addEdge_25 S a1 a2 a3 (b6g_children S) t2 Q := by
    intro t2 t20 t21 t22
    have ct : (b6g_children S + t2).toInt = (b6g_children S).toInt + t2.toInt := pt_add (by omega) (by omega)
    unfold wp_X6_addEdge_25
    intro S3 e3
    have n3 : b6g_edges S3 = b6g_edges S := by rw [e3]
    rw [n3]
    refine ⟨pt_in (by omega) (by omega), fun S4 e4 => ?_⟩
    have n4 : b6g_edges S4 = b6g_edges S := by rw [e4]; exact n3
    rw [n4]
    refine ⟨pt_in (by omega) (by omega), fun S5 e5 => ?_⟩
    have n5 : b6g_edges S5 = b6g_edges S := by rw [e5]; exact n4
    rw [n5]
    refine ⟨pt_in (by omega) (by omega), fun S6 e6 => ?_⟩
    have n6 : b6g_edges S6 = b6g_edges S := by rw [e6]; exact n5
    have c6 : b6g_children S6 = b6g_children S + t2 := by rw [e6, e5, e4, e3]
    rw [em] at e4 e5 e6
    have fin : ∀ v : Int32, (v = -1 ↔ ¬ a3 = -1) → wp_X6_addEdge_80 S6 (b6g_edges S6) v Q := by
      intro v hv
      unfold wp_X6_addEdge_80
      rw [n6, em]
      refine ⟨pt_in (by omega) (by omega), fun S1 e1 S2 e2 => ?_⟩
      refine hq S2 v ?_ (by rw [e2, e1, e6, e5, e4, e3]) (by rw [e2, e1, e6, e5, e4, e3]) (by rw [e2, e1, e6, e5, e4, e3]) (by rw [e2, e1, e6, e5, e4, e3]) hv ?_ ?_ (by rw [e2, e1, e6, e5, e4, e3]; exact ⟨rfl, rfl, rfl, rfl, rfl, rfl, rfl⟩)
      · have k : b6g_edges S1 = b6g_edges S := by rw [e1]; exact n6
        rw [e2]
        show (b6g_edges S1 + 1).toInt = _
        rw [k, pt_add (by rw [pl_1]; omega) (by rw [pl_1]; omega), pl_1, hm]
      · have k : b6g_children S2 = b6g_children S + t2 := by rw [e2, e1]; exact c6
        rw [k, ct]
        omega
      · have k : b6g_children S2 = b6g_children S + t2 := by rw [e2, e1]; exact c6
        rw [k, ct]
        omega
    refine ⟨fun c => fin _ ⟨fun _ => c, fun _ => rfl⟩, fun c => fin _ ⟨fun z => ?_, fun z => absurd c z⟩⟩
    have z2 : (b6g_children S6).toInt = -1 := by rw [z]; rfl
    rw [c6, ct] at z2
    omega
  unfold wp_X6_addEdge
  refine ⟨fun c => ?_, fun _ => ⟨fun c => core 0 (by decide) (by decide) (fun z => absurd z c), fun c => core 1 (by decide) (by decide) (fun _ => rfl)⟩⟩
  simp only [pn] at c
  omega
theorem EAR_skip {n : Nat} {C L : Nat → Nat} {P : Nat → Nat → Nat} {f : Nat → Int64} {en eo el ec : Nat → Int32} {b d : Nat} (h : EAR n C L P f en eo el ec b) (hn : ∀ w, b ≤ w → w < d → ¬ IsE n C P w) : EAR n C L P f en eo el ec d := by
  intro w y hw hE hy
  by_cases z : w < b
  · exact h w y z hE hy
  · exact absurd hE (hn w (by omega) hw)
theorem EAR_add {n : Nat} {C L : Nat → Nat} {P : Nat → Nat → Nat} {f : Nat → Int64} {en eo el ec : Nat → Int32} {b m : Nat} {a1 a2 a3 v : Int32} (h : EAR n C L P f en eo el ec b) (hE : IsE n C P b) (hm : (m : Int) = EB n C P b) (h1 : a1.toInt = NB n C P (b + 1) - 1) (h2 : a2 = OCV f L b) (h3 : C (b % 64) = b / 64 → a3.toInt = ((b % 64 : Nat) : Int)) (h4 : ¬ C (b % 64) = b / 64 → a3.toInt = -1) (h5 : v = -1 ↔ ¬ a3 = -1) : EAR n C L P f (upd en m a1) (upd eo m a2) (upd el m a3) (upd ec m v) (b + 1) := by
  intro w y hw hE2 hy
  by_cases z : w = b
  · subst z
    have ey : y = m := by omega
    rw [ey, up_s, up_s, up_s, up_s]
    refine ⟨h1, h2, h3, h4, ?_⟩
    rw [h5]
    constructor
    · intro p
      apply Classical.byContradiction
      intro q
      exact p (Int32.toInt_inj.mp ((h4 q).trans pl_m1.symm))
    · intro p q
      have k := h3 p
      rw [q, pl_m1] at k
      omega
  · have lt : EB n C P w < EB n C P b := CTP_lt (by omega) hE2
    have ny : y ≠ m := by omega
    rw [up_n ny, up_n ny, up_n ny, up_n ny]
    exact h w y (by omega) hE2 hy
theorem NB_in {n : Nat} {C : Nat → Nat} {P : Nat → Nat → Nat} (h64 : n ≤ 64) {l s i : Nat} (hs : NST n C P l s) (hg : ∀ k, s ≤ k → k ≤ i → l ≤ C k ∧ P l k = P l s) (hsi : s ≤ i) (hin : i < n) : NB n C P (64 * l + i + 1) = NB n C P (64 * l + s) + 1 := by
  have hy : NB n C P (64 * l + s + 1) = NB n C P (64 * l + s) + 1 := CTP_y ((IsN_at (by omega)).mpr hs)
  rw [← hy]
  refine CTP_st _ (by omega) (fun w p q r => ?_)
  have ew : w = 64 * l + (w - 64 * l) := by omega
  rw [ew, IsN_at (by omega)] at r
  have a := hg (w - 64 * l) (by omega) (by omega)
  have b := hg (w - 64 * l - 1) (by omega) (by omega)
  rcases r.2.2 with t | t
  · omega
  · exact t ⟨b.1, by rw [b.2, a.2]⟩
theorem fx6_findEdgesOf {S : bT6 × bT1} {a1 : Int32} {l s e x : Nat} {Q : (bT6 × bT1) → Prop} (o : LVO S.2) (j : J1 S.2) (hx : a1.toInt = (x : Int)) (hx2 : x < 232) (hs : NST (tn S.2) (tC S.2) (tP S.2) l s) (hg : GRQ (tn S.2) (tC S.2) (tP S.2) l s e (tn S.2)) (hN : (x : Int) = NB (tn S.2) (tC S.2) (tP S.2) (64 * l + s)) (hl : (b6g_nodeLevels S.1 x).toInt = (l : Int)) (hf : (b6g_firstLeaves S.1 x).toInt = (s : Int)) (hc : (b6g_leafCounts S.1 x).toInt = (e : Int) - (s : Int)) (he : (b6g_edges S.1).toInt = EB (tn S.2) (tC S.2) (tP S.2) (64 * l + s)) (hA : EAR (tn S.2) (tC S.2) (tL S.2) (tP S.2) (b0g_bytes (b1g_owners S.2)) (b6g_edgeNodes S.1) (b6g_edgeOctets S.1) (b6g_edgeLeaves S.1) (b6g_edgeChildren S.1) (64 * l + s)) (h0 : 0 ≤ (b6g_children S.1).toInt) (h1 : (b6g_children S.1).toInt ≤ (b6g_edges S.1).toInt) (hq : ∀ u : bT6 × bT1, u.2 = S.2 → FE6 u.1 S.1 → (b6g_edges u.1).toInt = EB (tn S.2) (tC S.2) (tP S.2) (64 * l + e) → EAR (tn S.2) (tC S.2) (tL S.2) (tP S.2) (b0g_bytes (b1g_owners S.2)) (b6g_edgeNodes u.1) (b6g_edgeOctets u.1) (b6g_edgeLeaves u.1) (b6g_edgeChildren u.1) (64 * l + e) → 0 ≤ (b6g_children u.1).toInt → (b6g_children u.1).toInt ≤ (b6g_edges u.1).toInt → Q u) : wp_X6_findEdgesOf S a1 Q := by
  have G := tG o j
  have jn := tnn j
  have g64 := G.1
  have as := G.2.1 s hs.1
  have l7 : l ≤ 7 := by have := hs.2.1; omega
  have ge := hg.1
  have gn := hg.2.1
  unfold wp_X6_findEdgesOf
  refine fx_atN (by decide) hx hx2 (fx_atN (by decide) hx hx2 (fx_atN (by decide) hx hx2 ?_))
  obtain ⟨lv, elv⟩ : ∃ lv : Int32, lv = b6g_nodeLevels S.1 x := ⟨_, rfl⟩
  have hlv : lv.toInt = (l : Int) := by rw [elv]; exact hl
  have lvn : lv = nI l := Int32.toInt_inj.mp (by rw [nI_toInt (by omega)]; exact hlv)
  have hbe : (b6g_firstLeaves S.1 x + b6g_leafCounts S.1 x).toInt = (e : Int) := by rw [pt_add (by omega) (by omega)]; omega
  rw [← elv]
  unfold wp_X6_findEdgesOf_39
  refine ⟨fun k x1 x3 x5 x6 x7 V => ∃ i : Nat, x7.toInt = (i : Int) ∧ a1 = x1 ∧ lv = x3 ∧ x5.toInt = (e : Int) ∧ s ≤ i ∧ i ≤ e ∧ V.2 = S.2 ∧ FE6 V.1 S.1 ∧ (b6g_edges V.1).toInt = EB (tn S.2) (tC S.2) (tP S.2) (64 * l + i) ∧ EAR (tn S.2) (tC S.2) (tL S.2) (tP S.2) (b0g_bytes (b1g_owners S.2)) (b6g_edgeNodes V.1) (b6g_edgeOctets V.1) (b6g_edgeLeaves V.1) (b6g_edgeChildren V.1) (64 * l + i) ∧ 0 ≤ (b6g_children V.1).toInt ∧ (b6g_children V.1).toInt ≤ (b6g_edges V.1).toInt ∧ (i = s → x6 = -1) ∧ (s < i → (tL S.2 (i - 1) = l → x6 = -1) ∧ (¬ tL S.2 (i - 1) = l → x6 = OCT (b0g_bytes (b1g_owners S.2) (i - 1)) lv)) ∧ k = e - i, ⟨_, s, hf, rfl, rfl, hbe, Nat.le_refl _, by omega, rfl, ⟨rfl, rfl, rfl, rfl, rfl, rfl, rfl⟩, he, hA, h0, h1, fun _ => rfl, fun z => by omega, rfl⟩, ?_⟩
  rintro k x1 x3 x5 x6 x7 V ⟨i, e7, rfl, rfl, e5, hsi, hie, eV, hF, hE, hR, c0, c1, L1, L2, hk⟩
  suffices H : ∀ B : Int32 → Int32 → Int32 → Int32 → Int32 → (bT6 × bT1) → Prop, (∀ (z : Int32) (T : bT6 × bT1), T.2 = S.2 → FE6 T.1 S.1 → (b6g_edges T.1).toInt = EB (tn S.2) (tC S.2) (tP S.2) (64 * l + (i + 1)) → EAR (tn S.2) (tC S.2) (tL S.2) (tP S.2) (b0g_bytes (b1g_owners S.2)) (b6g_edgeNodes T.1) (b6g_edgeOctets T.1) (b6g_edgeLeaves T.1) (b6g_edgeChildren T.1) (64 * l + (i + 1)) → 0 ≤ (b6g_children T.1).toInt → (b6g_children T.1).toInt ≤ (b6g_edges T.1).toInt → (tL S.2 i = l → z = -1) → (¬ tL S.2 i = l → z = OCT (b0g_bytes (b1g_owners S.2) i) lv) → i < e → B a1 lv x5 z (x7 + 1) T) → wp_X6_findEdgesOf_39b V a1 lv x5 x6 x7 Q B from H _ (fun z T t1 t2 t3 t4 t5 t6 t7 t8 hi => ⟨e - (i + 1), by omega, i + 1, by rw [pt_add (by rw [pl_1]; omega) (by rw [pl_1]; omega), pl_1, e7]; omega, rfl, rfl, e5, by omega, by omega, t1, t2, t3, t4, t5, t6, fun y => by omega, fun _ => ⟨t7, t8⟩, rfl⟩)
  intro B hB
  unfold wp_X6_findEdgesOf_39b
  rw [eV]
  refine ⟨fun c => ?_, fun c => ?_⟩
  · simp only [pn] at c
    have ei : i = e := by omega
    rw [ei] at hE hR
    exact hq V eV hF hE hR c0 c1
  simp only [pn] at c
  have hi : i < e := by omega
  have hin : i < tn S.2 := by omega
  have ai := G.2.1 i hin
  have gi := hg.2.2.1 i hsi hi
  have grp : ∀ q, s ≤ q → q ≤ i → l ≤ tC S.2 q ∧ tP S.2 l q = tP S.2 l s := fun q q1 q2 => hg.2.2.1 q q1 (by omega)
  have iff := EST_iff G hs grp hsi hin
  have eb := EB_le G (w := 64 * l + i) (by omega)
  have nbi := NB_in g64 hs grp hsi hin
  obtain ⟨m, em⟩ : ∃ m : Nat, (b6g_edges V.1).toInt = (m : Int) := ⟨(b6g_edges V.1).toInt.toNat, by omega⟩
  have w1 : (64 * l + i) / 64 = l := gd1 l (by omega)
  have w2 : (64 * l + i) % 64 = i := gd2 l (by omega)
  have add : ∀ (a2 a3 z : Int32), EST (tn S.2) (tC S.2) (tP S.2) l i → a2 = OCV (b0g_bytes (b1g_owners S.2)) (tL S.2) (64 * l + i) → (tC S.2 i = l → a3.toInt = (i : Int)) → (¬ tC S.2 i = l → a3.toInt = -1) → (tL S.2 i = l → z = -1) → (¬ tL S.2 i = l → z = OCT (b0g_bytes (b1g_owners S.2) i) lv) → wp_X6_addEdge V.1 a1 a2 a3 (fun u => ∀ S3 : bT6 × bT1, S3 = (u, V.2) → B a1 lv x5 z (x7 + 1) S3) := by
    intro a2 a3 z hEST ha2 ha3 ha4 hz1 hz2
    have hIs : IsE (tn S.2) (tC S.2) (tP S.2) (64 * l + i) := (IsE_at (by omega)).mpr hEST
    refine fx6_addEdge em (by omega) c0 (by omega) (fun u v u1 u2 u3 u4 u5 u6 u7 u8 u9 S3 e3 => ?_)
    have nx : EB (tn S.2) (tC S.2) (tP S.2) (64 * l + (i + 1)) = EB (tn S.2) (tC S.2) (tP S.2) (64 * l + i) + 1 := CTP_y hIs
    refine hB z S3 (by rw [e3]; exact eV) (by rw [e3]; exact FE6_tr u9 hF) (by rw [e3]; show (b6g_edges u).toInt = _; omega) ?_ (by rw [e3]; exact u7) (by rw [e3]; show (b6g_children u).toInt ≤ (b6g_edges u).toInt; omega) hz1 hz2 hi
    rw [e3]
    show EAR _ _ _ _ _ (b6g_edgeNodes u) (b6g_edgeOctets u) (b6g_edgeLeaves u) (b6g_edgeChildren u) (64 * l + i + 1)
    rw [u2, u3, u4, u5]
    refine EAR_add hR hIs (by omega) (by rw [nbi]; omega) ha2 (fun y => ?_) (fun y => ?_) u6
    · rw [w1, w2] at y
      rw [w2]
      exact ha3 y
    · rw [w1, w2] at y
      exact ha4 y
  refine fx_lenAt o j e7 hin (fun r4 e4 => ⟨fun c4 => ?_, fun c4 => ?_⟩)
  · simp only [pn] at c4
    have nL : ¬ tL S.2 i = l := by omega
    refine fx_bytesAt (J1g_owners j) (fun r6 p6 _ => fx_octetAt (fun r8 p8 _ => ?_))
    have r6e : r6 = b0g_bytes (b1g_owners S.2) i := p6 i (by omega) (by omega)
    have r8e : r8 = OCT (b0g_bytes (b1g_owners S.2) i) lv := by rw [p8 (by omega) (by omega), r6e]
    have ro := OCT_rng (b0g_bytes (b1g_owners S.2) i) (i := lv) (by omega) (by omega)
    rw [← r8e] at ro
    have key : r8 = x6 ↔ ¬ EST (tn S.2) (tC S.2) (tP S.2) l i := by
      rw [iff]
      by_cases z : i = s
      · have x6e := L1 z
        constructor
        · intro y
          rw [y, x6e, pl_m1] at ro
          omega
        · intro y
          exact absurd (Or.inr (Or.inl z)) y
      · obtain ⟨q1, q2⟩ := L2 (by omega)
        by_cases y : tL S.2 (i - 1) = l
        · have x6e := q1 y
          constructor
          · intro t
            rw [t, x6e, pl_m1] at ro
            omega
          · intro t
            exact absurd (Or.inr (Or.inr (Or.inl y))) t
        · have x6e := q2 y
          have pe : PX (ub (b0g_bytes (b1g_owners S.2) i)) lv.toInt.toNat = PX (ub (b0g_bytes (b1g_owners S.2) (i - 1))) lv.toInt.toNat := by
            rw [show lv.toInt.toNat = l by omega]
            have a := (grp i hsi (Nat.le_refl _)).2
            have b := (grp (i - 1) (by omega) (by omega)).2
            exact a.trans b.symm
          have oe := OCT_eq (i := lv) (by omega) (by omega) pe
          rw [show lv.toInt.toNat = l by omega] at oe
          rw [r8e, x6e, oe]
          constructor
          · intro t
            rintro (t2 | t2 | t2 | t2)
            · exact nL t2
            · exact z t2
            · exact y t2
            · exact t2 t.symm
          · intro t
            apply Classical.byContradiction
            intro t2
            exact t (Or.inr (Or.inr (Or.inr (fun t3 => t2 t3.symm))))
    refine ⟨fun d => ?_, fun d => ?_⟩
    · unfold wp_X6_findEdgesOf_135 wp_X6_findEdgesOf_139
      have hne := key.mp d
      have hIs : ¬ IsE (tn S.2) (tC S.2) (tP S.2) (64 * l + i) := fun t => hne ((IsE_at (by omega)).mp t)
      have nx : EB (tn S.2) (tC S.2) (tP S.2) (64 * l + (i + 1)) = EB (tn S.2) (tC S.2) (tP S.2) (64 * l + i) := CTP_n hIs
      refine hB r8 V eV hF (by rw [nx]; exact hE) (EAR_skip hR (fun w t1 t2 => ?_)) c0 c1 (fun t => absurd t nL) (fun _ => r8e) hi
      rw [show w = 64 * l + i by omega]
      exact hIs
    · have hEST : EST (tn S.2) (tC S.2) (tP S.2) l i := Classical.byContradiction (fun t => d (key.mpr t))
      have hov : r8 = OCV (b0g_bytes (b1g_owners S.2)) (tL S.2) (64 * l + i) := by
        unfold OCV
        rw [w1, w2, if_neg nL, r8e, lvn]
      have no : ¬ tC S.2 i = l → wp_X6_findEdgesOf_114 V a1 lv x5 x7 r8 Q B := by
        intro t
        unfold wp_X6_findEdgesOf_114 wp_X6_findEdgesOf_115 wp_X6_findEdgesOf_132 wp_X6_findEdgesOf_135 wp_X6_findEdgesOf_139
        exact ⟨fun _ => add r8 (-1) r8 hEST hov (fun t2 => absurd t2 t) (fun _ => rfl) (fun t2 => absurd t2 nL) (fun _ => r8e), fun t2 => absurd rfl t2⟩
      have yes : tC S.2 i = l → wp_X6_findEdgesOf_115 V a1 lv x5 x7 r8 1 Q B := by
        intro t
        unfold wp_X6_findEdgesOf_115 wp_X6_findEdgesOf_132 wp_X6_findEdgesOf_135 wp_X6_findEdgesOf_139
        exact ⟨fun t2 => absurd t2 (by decide), fun _ => add r8 x7 r8 hEST hov (fun _ => e7) (fun t2 => absurd t t2) (fun t2 => absurd t2 nL) (fun _ => r8e)⟩
      have lv1 : (lv + 1).toInt = (l : Int) + 1 := by rw [pt_add (by rw [pl_1]; omega) (by rw [pl_1]; omega), pl_1, hlv]
      refine fx_lenAt o j e7 hin (fun r10 e10 => ⟨fun c10 => no ?_, fun c10 => fx_endAt o j e7 hin (fun r12 e12 => ⟨fun c12 => no ?_, fun c12 => yes ?_⟩)⟩)
      · simp only [pn] at c10
        omega
      · have ce : tC S.2 i = tL S.2 i := Classical.byContradiction (fun z => c12 (e12.mpr z))
        omega
      · have ce := e12.mp c12
        simp only [pn] at c10
        omega
  · simp only [pn] at c4
    have hL : tL S.2 i = l := by omega
    have is := END_first G grp hsi hin hL
    have hC : tC S.2 i = l := by omega
    have hEST : EST (tn S.2) (tC S.2) (tP S.2) l i := ⟨hin, Or.inl hC⟩
    unfold wp_X6_findEdgesOf_139
    have q := add (-1) x7 x6 hEST (by unfold OCV; rw [w1, w2, if_pos hL]) (fun _ => e7) (fun t => absurd hC t) (fun _ => L1 is) (fun t => absurd hL t)
    rw [eV] at q
    exact q
/-! all edges: the nodes one behind the other -/
theorem NB_grp {n : Nat} {C : Nat → Nat} {P : Nat → Nat → Nat} (h64 : n ≤ 64) {l s e : Nat} (hs : NST n C P l s) (hg : GRQ n C P l s e n) : NB n C P (64 * l + e) = NB n C P (64 * l + s) + 1 := by
  have a := hg.1
  have b := hg.2.1
  have k := NB_in h64 hs (i := e - 1) (fun k k1 k2 => hg.2.2.1 k k1 (by omega)) (by omega) (by omega)
  rw [show 64 * l + (e - 1) + 1 = 64 * l + e by omega] at k
  exact k
