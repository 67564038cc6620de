theorem fx6_branches {T : bT6} {n : Nat} {C L : Nat → Nat} {P : Nat → Nat → Nat} {f : Nat → Int64} (G : GRD n C L P) (t : TR6 T n C L P f) {a1 a2 : Int32} {x y a b : Nat} {Q : Int32 → Prop} (h1 : a1.toInt = (x : Int)) (h2 : a2.toInt = (y : Int)) (hx : x < 233) (hy : y < 233) (hab : a ≤ b) (hb : b ≤ 512) (ea : (b6g_edgeStarts T x).toInt = EB n C P a) (eb : (b6g_edgeStarts T y).toInt = EB n C P b) (hq : ∀ r : Int32, r.toInt = BB n C L P b - BB n C L P a → Q r) : wp_X6_branches T a1 a2 Q := by
  have m := EB_mono (n := n) (C := C) (P := P) hab
  have bl := EB_le G (w := b) hb
  have al := EB_le G (w := a) (by omega)
  have p1 := DB_BB (n := n) (C := C) (L := L) (P := P) a
  have p2 := DB_BB (n := n) (C := C) (L := L) (P := P) b
  have dm : DB n C L P a ≤ DB n C L P b := CTP_le b hab
  have bm : BB n C L P a ≤ BB n C L P b := CTP_le b hab
  unfold wp_X6_branches
  refine fx6_edgesAmong h1 h2 hx hy (fx6_endsAmong G t h1 h2 hx hy hab hb ea eb (fun r3 hr => hq _ ?_))
  have q : (b6g_edgeStarts T y - b6g_edgeStarts T x).toInt = EB n C P b - EB n C P a := by rw [pt_sub (by omega) (by omega), ea, eb]
  rw [pt_sub (by rw [q, hr]; omega) (by rw [q, hr]; omega), q, hr]
  omega
/-! what is asked of a node -/
def NDV (n : Nat) (C L : Nat → Nat) (P : Nat → Nat → Nat) (un x a r : Int) : Prop := ∃ l s e : Nat, l ≤ 7 ∧ NST n C P l s ∧ GRQ n C P l s e n ∧ x = NB n C P (64 * l + s) ∧ (a = 0 → r = (l : Int)) ∧ (a = 1 → r = BB n C L P (64 * l + e) - BB n C L P (64 * l + s)) ∧ (a = 2 → r = KB n C P (64 * l + e) - KB n C P (64 * l + s)) ∧ (a = 3 → r = DB n C L P (64 * l + e) - DB n C L P (64 * l + s)) ∧ (a = 4 → (x < un → r = 1) ∧ (¬ x < un → r = 0)) ∧ (a = 5 → r = (s : Int)) ∧ (a = 6 → r = (e : Int) - (s : Int)) ∧ (¬ (0 ≤ a ∧ a ≤ 6) → r = -1)
theorem NDV_one {n : Nat} {C L : Nat → Nat} {P : Nat → Nat → Nat} (h64 : n ≤ 64) {un x a r q : Int} (h : NDV n C L P un x a r) (g : NDV n C L P un x a q) : r = q := by
  obtain ⟨l, s, e, h1, h2, h3, h4, a0, a1, a2, a3, a4, a5, a6, a7⟩ := h
  obtain ⟨l', s', e', g1, g2, g3, g4, b0, b1, b2, b3, b4, b5, b6, b7⟩ := g
  have sn := h2.1
  have sn' := g2.1
  have ew : 64 * l + s = 64 * l' + s' := CTP_inj (P := IsN n C P) ((IsN_at (by omega)).mpr h2) ((IsN_at (by omega)).mpr g2) (by show NB n C P (64 * l + s) = NB n C P (64 * l' + s'); omega)
  have el : l = l' := by omega
  have es : s = s' := by omega
  subst el
  subst es
  have ee := GRQ_one h3 g3
  subst ee
  by_cases z0 : a = 0
  · rw [a0 z0, b0 z0]
  by_cases z1 : a = 1
  · rw [a1 z1, b1 z1]
  by_cases z2 : a = 2
  · rw [a2 z2, b2 z2]
  by_cases z3 : a = 3
  · rw [a3 z3, b3 z3]
  by_cases z4 : a = 4
  · by_cases y : x < un
    · rw [(a4 z4).1 y, (b4 z4).1 y]
    · rw [(a4 z4).2 y, (b4 z4).2 y]
  by_cases z5 : a = 5
  · rw [a5 z5, b5 z5]
  by_cases z6 : a = 6
  · rw [a6 z6, b6 z6]
  rw [a7 (by omega), b7 (by omega)]
theorem AGX_b {X : bT1} {S : bT9} (h : AGX X S) : (∀ w, BB (tn X) (tC X) (tL X) (tP X) w = BB (n9 S) (C9 S) (L9 S) (P9 S) w) ∧ (∀ w, KB (tn X) (tC X) (tP X) w = KB (n9 S) (C9 S) (P9 S) w) ∧ (∀ w, DB (tn X) (tC X) (tL X) (tP X) w = DB (n9 S) (C9 S) (L9 S) (P9 S) w) ∧ (∀ l i, NST (tn X) (tC X) (tP X) l i ↔ NST (n9 S) (C9 S) (P9 S) l i) ∧ ∀ l s e, GRQ (tn X) (tC X) (tP X) l s e (tn X) ↔ GRQ (n9 S) (C9 S) (P9 S) l s e (n9 S) := by
  obtain ⟨e1, e2, _⟩ := AGX_g h
  have en := h.1
  have eL := h.2.2.1
  have eC := h.2.1
  have eP := h.2.2.2.1
  refine ⟨fun w => CTP_congr w (fun i _ => ?_), fun w => CTP_congr w (fun i _ => ?_), fun w => CTP_congr w (fun i _ => ?_), fun l i => ?_, fun l s e => ?_⟩
  · unfold IsB
    rw [e2]
    by_cases hi : i % 64 < n9 S
    · rw [eL _ hi]
    · exact ⟨fun z => absurd z.1.1 hi, fun z => absurd z.1.1 hi⟩
  · unfold IsK
    rw [e2]
    by_cases hi : i % 64 < n9 S
    · rw [eC _ hi]
    · exact ⟨fun z => absurd z.1.1 hi, fun z => absurd z.1.1 hi⟩
  · unfold IsD
    rw [e2]
    by_cases hi : i % 64 < n9 S
    · rw [eL _ hi]
    · exact ⟨fun z => absurd z.1.1 hi, fun z => absurd z.1.1 hi⟩
  · rw [en]
    unfold NST
    by_cases hi : i < n9 S
    · rw [eC i hi, eC (i - 1) (by omega), eP l i hi, eP l (i - 1) (by omega)]
    · exact ⟨fun t => absurd t.1 hi, fun t => absurd t.1 hi⟩
  · rw [en]
    unfold GRQ
    constructor
    · intro g
      have g1 := g.1
      have g2 := g.2.1
      refine ⟨g1, g2, fun k k1 k2 => ?_, fun t => ?_⟩
      · have := g.2.2.1 k k1 k2
        rw [eC k (by omega), eP l k (by omega), eP l s (by omega)] at this
        exact this
      · have := g.2.2.2 t
        rw [eC e t, eP l e t, eP l s (by omega)] at this
        exact this
    · intro g
      have g1 := g.1
      have g2 := g.2.1
      refine ⟨g1, g2, fun k k1 k2 => ?_, fun t => ?_⟩
      · rw [eC k (by omega), eP l k (by omega), eP l s (by omega)]
        exact g.2.2.1 k k1 k2
      · rw [eC e t, eP l e t, eP l s (by omega)]
        exact g.2.2.2 t
theorem NDV_agx {X : bT1} {S : bT9} (h : AGX X S) {un x a r : Int} (g : NDV (tn X) (tC X) (tL X) (tP X) un x a r) : NDV (n9 S) (C9 S) (L9 S) (P9 S) un x a r := by
  obtain ⟨_, _, _, eN, _, _⟩ := AGX_g h
  obtain ⟨eB, eK, eD, eS, eG⟩ := AGX_b h
  obtain ⟨l, s, e, g1, g2, g3, g4, a0, a1, a2, a3, a4⟩ := g
  rw [eB, eB] at a1
  rw [eK, eK] at a2
  rw [eD, eD] at a3
  rw [eN] at g4
  exact ⟨l, s, e, g1, (eS l s).mp g2, (eG l s e).mp g3, g4, a0, a1, a2, a3, a4⟩
/-! the upper levels of both -/
theorem TD_use {S u : bT9} (hJ : J9 u) (hP : T9P S) (sm : SM9 u S) (h : TDW u ∧ (b9g_areNodesLaid u).toInt ≠ 0 ∧ (b9g_isLaid u).toInt ≠ 0) : R9 u ∧ TD9 u := by
  have hPu := T9P_same hP sm
  exact ⟨R9_of hPu.1 hPu.2.1 hJ h.2.2, (h.1 h.2.1).1⟩
def UPX (X : bT1) (de ra : Int32) (k lv : Nat) : Prop := LEVS (tn X) (tC X) (tP X) (lv : Int) 8 ∧ lv ≤ 8 ∧ k ≤ lv ∧ UPS (tn X) (tC X) (tP X) de ra lv k
def UPD (S : bT9) (k lv : Nat) : Prop := LEVS (n9 S) (C9 S) (P9 S) (lv : Int) 8 ∧ lv ≤ 8 ∧ k ≤ lv ∧ UP9 (n9 S) (C9 S) (P9 S) (b9g_now S 13 - 1) (b9g_now S 14) lv k
theorem LEVS_one {n : Nat} {C : Nat → Nat} {P : Nat → Nat → Nat} {v w : Int} (h : LEVS n C P v 8) (g : LEVS n C P w 8) : v = w := by
  have nn := NB_nn (n := n) (C := C) (P := P)
  rcases h with ⟨h1, h2⟩ | ⟨q, h1, h2, h3, h4⟩
  · rcases g with ⟨g1, g2⟩ | ⟨p, g1, g2, g3, g4⟩
    · omega
    · have a := nn (64 * p)
      omega
  · rcases g with ⟨g1, g2⟩ | ⟨p, g1, g2, g3, g4⟩
    · have a := nn (64 * q)
      omega
    · have e : q = p := by
        apply Classical.byContradiction
        intro z
        by_cases y : q < p
        · have m := NB_mono (n := n) (C := C) (P := P) (show 64 * (q + 1) ≤ 64 * p by omega)
          have m2 := NB_mono (n := n) (C := C) (P := P) (show 64 * (p + 1) ≤ 64 * 8 by omega)
          omega
        · have m := NB_mono (n := n) (C := C) (P := P) (show 64 * (p + 1) ≤ 64 * q by omega)
          have m2 := NB_mono (n := n) (C := C) (P := P) (show 64 * (q + 1) ≤ 64 * 8 by omega)
          omega
      omega
theorem UPQ {X : bT1} {P : bT3} {S : bT9} (ag : AGX X S) (hb : (b9g_now S 9).toInt = 0 ∨ (b3g_values P 2 + 1 = b9g_now S 13 ∧ b3g_values P 3 = b9g_now S 14)) (hd : DB2 P) {k lv k' lv' : Nat} (h : UPX X (b3g_values P 2) (b3g_values P 3) k lv) (g : UPD S k' lv') : k = k' ∧ lv = lv' := by
  obtain ⟨_, _, _, eN, eE, _⟩ := AGX_g ag
  obtain ⟨h1, h2, h3, h4⟩ := h
  obtain ⟨g1, g2, g3, g4⟩ := g
  have h1' : LEVS (n9 S) (C9 S) (P9 S) (lv : Int) 8 := by
    unfold LEVS at h1 ⊢
    rcases h1 with ⟨a, b⟩ | ⟨q, a, b, c, d⟩
    · exact Or.inl ⟨a, by rw [← eN]; exact b⟩
    · exact Or.inr ⟨q, a, b, by rw [← eN, ← eN]; exact c, by rw [← eN, ← eN]; exact d⟩
  have el : lv = lv' := by
    have := LEVS_one h1' g1
    omega
  subst el
  refine ⟨?_, rfl⟩
  have d0 := hd.1
  have d9 := hd.2
  by_cases z : lv = 0
  · have a := g4.1 z
    omega
  · obtain ⟨e1, e2⟩ : b3g_values P 2 + 1 = b9g_now S 13 ∧ b3g_values P 3 = b9g_now S 14 := by
      rcases hb with y | y
      · exfalso
        have e0 : n9 S = 0 := by unfold n9; omega
        rcases g1 with ⟨y1, _⟩ | ⟨q, y1, _, y3, _⟩
        · omega
        · have kk : NB (n9 S) (C9 S) (P9 S) (64 * (q + 1)) = NB (n9 S) (C9 S) (P9 S) (64 * q) := CTP_st _ (by omega) (fun w _ _ r => by have := r.1; omega)
          omega
      · exact y
    have v21 : (b3g_values P 2 + 1).toInt = (b3g_values P 2).toInt + 1 := by rw [pt_add (by rw [pl_1]; omega) (by rw [pl_1]; omega), pl_1]
    have de : (b9g_now S 13 - 1).toInt = (b3g_values P 2).toInt := by
      rw [← e1, pt_sub (by rw [v21, pl_1]; omega) (by rw [v21, pl_1]; omega), v21, pl_1]
      omega
    have q := g4.2 z
    rw [de, ← e2] at q
    by_cases y : (b3g_values P 2).toInt = 9
    · have a := h4.1 y
      have b := q.1 (by omega)
      have eU : ∀ i, COU (tn X) (tC X) (tP X) (b3g_values P 3) i ↔ COU (n9 S) (C9 S) (P9 S) (b3g_values P 3) i := by
        intro i
        unfold COU BTN BTE
        rw [eN, eE, eE]
      exact UPR_one (n := n9 S) (C := C9 S) (P := P9 S) ⟨a.1, a.2.1.imp id (fun t => (eU k).mp t), fun i i1 i2 t => a.2.2 i i1 i2 ((eU i).mpr t)⟩ b
    · have a := h4.2 y
      have b := q.2 (by omega)
      omega
theorem C_node {X : bT1} {P : bT3} {S : bT9} {a b r q : Int32} (h9 : 0 ≤ (b9g_now S 9).toInt) (h64 : (b9g_now S 9).toInt ≤ 64) (hx : LFP X (b9g_now S) (fun j => b9g_keys S (64 + j)) (fun j => b9g_lengths S (64 + j))) (hb : (b9g_now S 9).toInt = 0 ∨ (b3g_values P 2 + 1 = b9g_now S 13 ∧ b3g_values P 3 = b9g_now S 14)) (hd : DB2 P) {A B : Prop} (ha : A) (hbb : B) (h : A → ∃ k lv : Nat, UPX X (b3g_values P 2) (b3g_values P 3) k lv ∧ ((0 ≤ a.toInt ∧ a.toInt < NB (tn X) (tC X) (tP X) 512) → NDV (tn X) (tC X) (tL X) (tP X) (NB (tn X) (tC X) (tP X) (64 * k)) a.toInt b.toInt r.toInt) ∧ (¬ (0 ≤ a.toInt ∧ a.toInt < NB (tn X) (tC X) (tP X) 512) → r.toInt = -1)) (h2 : B → ∃ k lv : Nat, UPD S k lv ∧ ((0 ≤ a.toInt ∧ a.toInt < NB (n9 S) (C9 S) (P9 S) 512) → NDV (n9 S) (C9 S) (L9 S) (P9 S) (NB (n9 S) (C9 S) (P9 S) (64 * k)) a.toInt b.toInt q.toInt) ∧ (¬ (0 ≤ a.toInt ∧ a.toInt < NB (n9 S) (C9 S) (P9 S) 512) → q.toInt = -1)) : r.toInt = q.toInt := by
  have ag := AGX_of h9 hx
  obtain ⟨_, _, _, eN, _, _⟩ := AGX_g ag
  obtain ⟨k, lv, u1, u2, u3⟩ := h ha
  obtain ⟨k', lv', v1, v2, v3⟩ := h2 hbb
  obtain ⟨e1, e2⟩ := UPQ ag hb hd u1 v1
  subst e1
  rw [eN] at u2 u3
  have n64 : n9 S ≤ 64 := by unfold n9; omega
  by_cases z : 0 ≤ a.toInt ∧ a.toInt < NB (n9 S) (C9 S) (P9 S) 512
  · refine NDV_one n64 (NDV_agx ag ?_) (v2 z)
    have := u2 z
    rw [eN] at this
    exact this
  · rw [u3 z, v3 z]
/-! items, least, tails -/
def ITV (n : Nat) (C L : Nat → Nat) (P : Nat → Nat → Nat) (f : Nat → Int64) (u : Nat) (k a r : Int) : Prop := ∃ w : Nat, 64 * u ≤ w ∧ w < 512 ∧ IsE n C P w ∧ EB n C P w - EB n C P (64 * u) = k ∧ (a = 0 → r = (OCV f L w).toInt) ∧ (a = 1 → (L (w % 64) = w / 64 → r = 1) ∧ (¬ L (w % 64) = w / 64 → r = 0)) ∧ (a = 2 → (C (w % 64) = w / 64 → r = 0) ∧ (¬ C (w % 64) = w / 64 → r = 1)) ∧ (a = 3 → r = NB n C P (w + 1) - 1) ∧ (¬ (0 ≤ a ∧ a ≤ 3) → r = -1)
theorem ITV_one {n : Nat} {C L : Nat → Nat} {P : Nat → Nat → Nat} {f : Nat → Int64} {u : Nat} {k a r q : Int} (h : ITV n C L P f u k a r) (g : ITV n C L P f u k a q) : r = q := by
  obtain ⟨w, _, _, h3, h4, a0, a1, a2, a3, a4⟩ := h
  obtain ⟨v, _, _, g3, g4, b0, b1, b2, b3, b4⟩ := g
  have e : w = v := CTP_inj (P := IsE n C P) h3 g3 (by show EB n C P w = EB n C P v; omega)
  subst e
  by_cases z0 : a = 0
  · rw [a0 z0, b0 z0]
  by_cases z1 : a = 1
  · by_cases y : L (w % 64) = w / 64
    · rw [(a1 z1).1 y, (b1 z1).1 y]
    · rw [(a1 z1).2 y, (b1 z1).2 y]
  by_cases z2 : a = 2
  · by_cases y : C (w % 64) = w / 64
    · rw [(a2 z2).1 y, (b2 z2).1 y]
    · rw [(a2 z2).2 y, (b2 z2).2 y]
  by_cases z3 : a = 3
  · rw [a3 z3, b3 z3]
  rw [a4 (by omega), b4 (by omega)]
theorem ITV_agx {X : bT1} {S : bT9} (h : AGX X S) {u : Nat} {k a r : Int} (g : ITV (tn X) (tC X) (tL X) (tP X) (b0g_bytes (b1g_owners X)) u k a r) : ITV (n9 S) (C9 S) (L9 S) (P9 S) (fun j => b9g_keys S (64 + j)) u k a r := by
  obtain ⟨_, eE2, _, eN, eE, _⟩ := AGX_g h
  obtain ⟨w, g1, g2, g3, g4, a0, a1, a2, a3, a4⟩ := g
  rw [eE, eE] at g4
  rw [eN] at a3
  have g3' := (eE2 w).mp g3
  have hi := g3'.1
  rw [h.2.2.1 _ hi] at a1
  rw [h.2.1 _ hi] at a2
  have eo : OCV (b0g_bytes (b1g_owners X)) (tL X) w = OCV (fun j => b9g_keys S (64 + j)) (L9 S) w := by
    unfold OCV
    rw [h.2.2.1 _ hi, h.2.2.2.2 _ hi]
  rw [eo] at a0
  exact ⟨w, g1, g2, g3', g4, a0, a1, a2, a3, a4⟩
theorem C_item {X : bT1} {P : bT3} {S : bT9} {a b r q : Int32} (h9 : 0 ≤ (b9g_now S 9).toInt) (hx : LFP X (b9g_now S) (fun j => b9g_keys S (64 + j)) (fun j => b9g_lengths S (64 + j))) (hb : (b9g_now S 9).toInt = 0 ∨ (b3g_values P 2 + 1 = b9g_now S 13 ∧ b3g_values P 3 = b9g_now S 14)) (hd : DB2 P) {A B : Prop} (ha : A) (hbb : B) (h : A → ∃ k lv : Nat, UPX X (b3g_values P 2) (b3g_values P 3) k lv ∧ ((0 ≤ a.toInt ∧ a.toInt < EB (tn X) (tC X) (tP X) 512 - EB (tn X) (tC X) (tP X) (64 * k)) → ITV (tn X) (tC X) (tL X) (tP X) (b0g_bytes (b1g_owners X)) k a.toInt b.toInt r.toInt) ∧ (¬ (0 ≤ a.toInt ∧ a.toInt < EB (tn X) (tC X) (tP X) 512 - EB (tn X) (tC X) (tP X) (64 * k)) → r.toInt = -1)) (h2 : B → ∃ k lv : Nat, UPD S k lv ∧ ((0 ≤ a.toInt ∧ a.toInt < EB (n9 S) (C9 S) (P9 S) 512 - EB (n9 S) (C9 S) (P9 S) (64 * k)) → ITV (n9 S) (C9 S) (L9 S) (P9 S) (fun j => b9g_keys S (64 + j)) k a.toInt b.toInt q.toInt) ∧ (¬ (0 ≤ a.toInt ∧ a.toInt < EB (n9 S) (C9 S) (P9 S) 512 - EB (n9 S) (C9 S) (P9 S) (64 * k)) → q.toInt = -1)) : r.toInt = q.toInt := by
  have ag := AGX_of h9 hx
  obtain ⟨_, _, _, _, eE, _⟩ := AGX_g ag
  obtain ⟨k, lv, u1, u2, u3⟩ := h ha
  obtain ⟨k', lv', v1, v2, v3⟩ := h2 hbb
  obtain ⟨e1, e2⟩ := UPQ ag hb hd u1 v1
  subst e1
  rw [eE, eE] at u2 u3
  by_cases z : 0 ≤ a.toInt ∧ a.toInt < EB (n9 S) (C9 S) (P9 S) 512 - EB (n9 S) (C9 S) (P9 S) (64 * k)
  · exact ITV_one (ITV_agx ag (u2 z)) (v2 z)
  · rw [u3 z, v3 z]
theorem fx9_hashBits {S : bT9} {Q : Int32 → Prop} (hq : Q (HBT (b9g_now S))) : wp_X9_hashBits S Q := by
  unfold wp_X9_hashBits
  refine ⟨pt_in (by decide) (by decide), by decide, fun c => ?_, fun c => ⟨pt_in (by decide) (by decide), ?_⟩⟩
  · have e : HBT (b9g_now S) = 0 := if_neg c
    rw [e] at hq
    exact hq
  · have e : HBT (b9g_now S) = b9g_now S 11 := if_pos c
    rw [e] at hq
    exact hq
theorem fx9_nextBits {S : bT9} {Q : Int32 → Prop} (hq : Q (NBT (b9g_now S))) : wp_X9_nextBits S Q := by
  unfold wp_X9_nextBits
  refine ⟨pt_in (by decide) (by decide), fun c => ?_, fun c => ⟨pt_in (by decide) (by decide), ?_⟩⟩
  · have e : NBT (b9g_now S) = 0 := if_pos c
    rw [e] at hq
    exact hq
  · have e : NBT (b9g_now S) = b9g_now S 12 := if_neg c
    rw [e] at hq
    exact hq
def TLB (c h r : Int32) : Int32 := c * (h + r)
theorem fx9_tailBits {S : bT9} {Q : Int32 → Prop} (hq : Q (TLB (b9g_now S 9) (HBT (b9g_now S)) (NBT (b9g_now S)))) : wp_X9_tailBits S Q := by
  unfold wp_X9_tailBits
  exact ⟨pt_in (by decide) (by decide), fx9_hashBits (fx9_nextBits hq)⟩
theorem TLB_eq {X : bT1} {n : Nat → Int32} {f : Nat → Int64} {g : Nat → Int32} (hx : LFP X n f g) : TLB (b0g_count (b1g_owners X)) (b1g_hashBits X) (b1g_realBits X) = TLB (n 9) (HBT n) (NBT n) := by
  rw [Int32.toInt_inj.mp hx.2.2.2.1, hx.2.2.2.2.2.1, hx.2.2.2.2.2.2.1]
noncomputable def BTS (n : Nat) (C : Nat → Nat) (P : Nat → Nat → Nat) (u : Nat) : Int := BTN n C P u + BTE n C P u
def LSU (n : Nat) (C : Nat → Nat) (P : Nat → Nat → Nat) (lv u : Nat) : Prop := u ≤ lv ∧ (∀ i, i < u → BTS n C P u < BTS n C P i) ∧ ∀ i, i ≤ lv → BTS n C P u ≤ BTS n C P i
theorem LSU_one {n : Nat} {C : Nat → Nat} {P : Nat → Nat → Nat} {lv u v : Nat} (h : LSU n C P lv u) (g : LSU n C P lv v) : u = v := by
  by_cases a : u < v
  · have x := g.2.1 u a
    have y := h.2.2 v g.1
    omega
  · by_cases b : v < u
    · have x := h.2.1 v b
      have y := g.2.2 u h.1
      omega
    · omega
def LSV (n : Nat) (C : Nat → Nat) (P : Nat → Nat → Nat) (tl : Int32) (lv : Nat) (a r : Int32) : Prop := ∃ u : Nat, LSU n C P lv u ∧ (a.toInt = 0 → r.toInt = (u : Int)) ∧ (a.toInt = 1 → ∃ x : Int32, x.toInt = BTS n C P u ∧ r = x + tl) ∧ (¬ (0 ≤ a.toInt ∧ a.toInt ≤ 1) → r.toInt = -1)
theorem LSV_one {n : Nat} {C : Nat → Nat} {P : Nat → Nat → Nat} {tl : Int32} {lv : Nat} {a r q : Int32} (h : LSV n C P tl lv a r) (g : LSV n C P tl lv a q) : r.toInt = q.toInt := by
  obtain ⟨u, h1, a0, a1, a2⟩ := h
  obtain ⟨v, g1, b0, b1, b2⟩ := g
  have e := LSU_one h1 g1
  subst e
  by_cases z0 : a.toInt = 0
  · rw [a0 z0, b0 z0]
  by_cases z1 : a.toInt = 1
  · obtain ⟨x, x1, x2⟩ := a1 z1
    obtain ⟨y, y1, y2⟩ := b1 z1
    rw [x2, y2, Int32.toInt_inj.mp (x1.trans y1.symm)]
  rw [a2 (by omega), b2 (by omega)]
theorem C_least {X : bT1} {P : bT3} {S : bT9} {a r q : Int32} (h9 : 0 ≤ (b9g_now S 9).toInt) (hx : LFP X (b9g_now S) (fun j => b9g_keys S (64 + j)) (fun j => b9g_lengths S (64 + j))) (hb : (b9g_now S 9).toInt = 0 ∨ (b3g_values P 2 + 1 = b9g_now S 13 ∧ b3g_values P 3 = b9g_now S 14)) (hd : DB2 P) {A B : Prop} (ha : A) (hbb : B) (h : A → ∃ k lv : Nat, UPX X (b3g_values P 2) (b3g_values P 3) k lv ∧ LSV (tn X) (tC X) (tP X) (TLB (b0g_count (b1g_owners X)) (b1g_hashBits X) (b1g_realBits X)) lv a r) (h2 : B → ∃ k lv : Nat, UPD S k lv ∧ LSV (n9 S) (C9 S) (P9 S) (TLB (b9g_now S 9) (HBT (b9g_now S)) (NBT (b9g_now S))) lv a q) : r.toInt = q.toInt := by
  have ag := AGX_of h9 hx
  obtain ⟨_, _, _, eN, eE, _⟩ := AGX_g ag
  obtain ⟨k, lv, u1, u2⟩ := h ha
  obtain ⟨k', lv', v1, v2⟩ := h2 hbb
  obtain ⟨e1, e2⟩ := UPQ ag hb hd u1 v1
  subst e2
  have eB : ∀ i, BTS (tn X) (tC X) (tP X) i = BTS (n9 S) (C9 S) (P9 S) i := by
    intro i
    unfold BTS BTN BTE
    rw [eN, eE, eE]
  refine LSV_one ?_ v2
  obtain ⟨u, w1, w2, w3, w4⟩ := u2
  rw [TLB_eq hx, eB] at w3
  refine ⟨u, ⟨w1.1, fun i hi => ?_, fun i hi => ?_⟩, w2, w3, w4⟩
  · have := w1.2.1 i hi
    rw [eB, eB] at this
    exact this
  · have := w1.2.2 i hi
    rw [eB, eB] at this
    exact this
theorem LSU_ex {n : Nat} {C : Nat → Nat} {P : Nat → Nat → Nat} : ∀ lv : Nat, ∃ u : Nat, LSU n C P lv u := by
  intro lv
  induction lv with
  | zero => exact ⟨0, Nat.le_refl _, fun i hi => by omega, fun i hi => by rw [show i = 0 by omega]; exact Int.le_refl _⟩
  | succ lv ih =>
    obtain ⟨u, h1, h2, h3⟩ := ih
    by_cases z : BTS n C P (lv + 1) < BTS n C P u
    · refine ⟨lv + 1, Nat.le_refl _, fun i hi => ?_, fun i hi => ?_⟩
      · have := h3 i (by omega)
        omega
      · by_cases y : i = lv + 1
        · rw [y]; exact Int.le_refl _
        · have := h3 i (by omega)
          omega
    · refine ⟨u, by omega, h2, fun i hi => ?_⟩
      by_cases y : i = lv + 1
      · rw [y]; omega
      · exact h3 i (by omega)
/-! what is asked of a leaf -/
def LFV (n : Nat) (C : Nat → Nat) (P : Nat → Nat → Nat) (f : Nat → Int64) (g : Nat → Int32) (sa hb rb : Int32) (i : Nat) (a r : Int32) : Prop := (a.toInt = 0 → r.toInt = ((min (C i + 1) (g i).toInt.toNat : Nat) : Int)) ∧ (a.toInt = 1 → (C i = (g i).toInt.toNat → r.toInt = 1) ∧ (¬ C i = (g i).toInt.toNat → r.toInt = 0)) ∧ (a.toInt = 2 → r = LWS (MIX sa (f i) (g i)) hb) ∧ (a.toInt = 3 → r = (OC8 (f i) (nI (min (C i + 1) (g i).toInt.toNat))) >>> (((8 : Int32) - rb) &&& 31)) ∧ (a.toInt = 4 → r.toInt = LB n C (64 * C i + i)) ∧ (a.toInt = 5 → r.toInt = NB n C P (64 * C i + i + 1) - 1) ∧ (a.toInt = 6 → r.toInt = (C i : Int)) ∧ (10 ≤ a.toInt ∧ a.toInt < 10 + ((min (C i + 1) (g i).toInt.toNat : Nat) : Int) → r = OCT (f i) (a - 10)) ∧ (¬ (0 ≤ a.toInt ∧ a.toInt ≤ 6) → ¬ (10 ≤ a.toInt ∧ a.toInt < 10 + ((min (C i + 1) (g i).toInt.toNat : Nat) : Int)) → r.toInt = -1)
theorem LFV_one {n : Nat} {C : Nat → Nat} {P : Nat → Nat → Nat} {f : Nat → Int64} {g : Nat → Int32} {sa hb rb : Int32} {i : Nat} {a r q : Int32} (h : LFV n C P f g sa hb rb i a r) (k : LFV n C P f g sa hb rb i a q) : r.toInt = q.toInt := by
  obtain ⟨a0, a1, a2, a3, a4, a5, a6, a7, a8⟩ := h
  obtain ⟨b0, b1, b2, b3, b4, b5, b6, b7, b8⟩ := k
  by_cases z0 : a.toInt = 0
  · rw [a0 z0, b0 z0]
  by_cases z1 : a.toInt = 1
  · by_cases y : C i = (g i).toInt.toNat
    · rw [(a1 z1).1 y, (b1 z1).1 y]
    · rw [(a1 z1).2 y, (b1 z1).2 y]
  by_cases z2 : a.toInt = 2
  · rw [a2 z2, b2 z2]
  by_cases z3 : a.toInt = 3
  · rw [a3 z3, b3 z3]
  by_cases z4 : a.toInt = 4
  · rw [a4 z4, b4 z4]
  by_cases z5 : a.toInt = 5
  · rw [a5 z5, b5 z5]
  by_cases z6 : a.toInt = 6
  · rw [a6 z6, b6 z6]
  by_cases z7 : 10 ≤ a.toInt ∧ a.toInt < 10 + ((min (C i + 1) (g i).toInt.toNat : Nat) : Int)
  · rw [a7 z7, b7 z7]
  · rw [a8 (by omega) z7, b8 (by omega) z7]
theorem C_leaf2 {X : bT1} {S : bT9} {a b r q : Int32} (h9 : 0 ≤ (b9g_now S 9).toInt) (hx : LFP X (b9g_now S) (fun j => b9g_keys S (64 + j)) (fun j => b9g_lengths S (64 + j))) {A B : Prop} (ha : A) (hbb : B) (h : A → ((0 ≤ a.toInt ∧ a.toInt < (b0g_count (b1g_owners X)).toInt) → LFV (tn X) (tC X) (tP X) (b0g_bytes (b1g_owners X)) (b0g_lengths (b1g_owners X)) (b1g_salt X) (b1g_hashBits X) (b1g_realBits X) a.toInt.toNat b r) ∧ (¬ (0 ≤ a.toInt ∧ a.toInt < (b0g_count (b1g_owners X)).toInt) → r.toInt = -1)) (h2 : B → ((0 ≤ a.toInt ∧ a.toInt < (b9g_now S 9).toInt) → LFV (n9 S) (C9 S) (P9 S) (fun j => b9g_keys S (64 + j)) (fun j => b9g_lengths S (64 + j)) (b9g_now S 16) (HBT (b9g_now S)) (NBT (b9g_now S)) a.toInt.toNat b q) ∧ (¬ (0 ≤ a.toInt ∧ a.toInt < (b9g_now S 9).toInt) → q.toInt = -1)) : r.toInt = q.toInt := by
  have ag := AGX_of h9 hx
  obtain ⟨_, _, _, eN, _, eL⟩ := AGX_g ag
  have u := h ha
  have v := h2 hbb
  rw [hx.2.2.2.1] at u
  by_cases z : 0 ≤ a.toInt ∧ a.toInt < (b9g_now S 9).toInt
  · refine LFV_one ?_ (v.1 z)
    have w := u.1 z
    have hi : a.toInt.toNat < n9 S := by unfold n9; omega
    have e1 := (hx.2.2.2.2.1 a.toInt.toNat (by omega)).1
    have e2 := (hx.2.2.2.2.1 a.toInt.toNat (by omega)).2
    unfold LFV at w ⊢
    rw [ag.2.1 _ hi, eL, eN, hx.2.2.2.2.2.1, hx.2.2.2.2.2.2.1, hx.2.2.2.2.2.2.2.1] at w
    rw [e1, e2]
    exact w
  · rw [u.2 z, v.2 z]
theorem i32_sh0 (x : Int32) : (0 : Int32) >>> x = 0 := by
  rw [Int32.zero_shiftRight]
/-- the node of a leaf -/
theorem fx9_nodeOf {S : bT9} (h : R9 S) (hN : N9 S) {a1 : Int32} {i : Nat} {Q : Int32 → Prop} (h1 : a1.toInt = (i : Int)) (hi : i < n9 S) (hq : ∀ r : Int32, r.toInt = NB (n9 S) (C9 S) (P9 S) (64 * C9 S i + i + 1) - 1 → Q r) : wp_X9_nodeOf S a1 Q := by
  have G := h.1
  have g64 := G.1
  have ai := G.2.1 i hi
  have bi := h.2.2 i hi
  obtain ⟨s, s1, s2, s3, s4⟩ := GRP_st (P := P9 S) g64 (l := C9 S i) i hi (Nat.le_refl _)
  have n5 := NB_le G (l := 7) (i := 64) (by omega) (by omega)
  have nb5 : NB (n9 S) (C9 S) (P9 S) (64 * 7 + 64) = NB (n9 S) (C9 S) (P9 S) 512 := rfl
  have nn := NB_nn (n := n9 S) (C := C9 S) (P := P9 S) (64 * C9 S i + s)
  have lt5 : NB (n9 S) (C9 S) (P9 S) (64 * C9 S i + s) < NB (n9 S) (C9 S) (P9 S) 512 := CTP_lt (by omega) ((IsN_at (by omega)).mpr s2)
  have hm := hN.1
  have ei : a1.toNatClampNeg = i := by
    show a1.toInt.toNat = i
    omega
  have loop : ∀ t0 : Int32, t0.toInt = (C9 S i : Int) → wp_X9_nodeOf_25 S a1 t0 Q := by
    intro t0 ht
    unfold wp_X9_nodeOf_25 wp_X9_nodeOf_28
    refine ⟨fun k x1 x2 x3 => ∃ x : Nat, a1 = x1 ∧ t0 = x2 ∧ x3.toInt = (x : Int) ∧ (x : Int) ≤ NB (n9 S) (C9 S) (P9 S) (64 * C9 S i + s) ∧ k = 600 - x, ⟨_, 0, rfl, rfl, rfl, by omega, rfl⟩, ?_⟩
    rintro k x1 x2 x3 ⟨x, rfl, rfl, e3, xm, hk⟩
    suffices H : ∀ B : Int32 → Int32 → Int32 → Prop, ((x : Int) < NB (n9 S) (C9 S) (P9 S) (64 * C9 S i + s) → B a1 t0 (x3 + 1)) → wp_X9_nodeOf_28b S a1 t0 x3 Q B from H _ (fun hx => ⟨600 - (x + 1), by omega, x + 1, rfl, rfl, by rw [pt_add (by rw [pl_1]; omega) (by rw [pl_1]; omega), pl_1, e3]; omega, by omega, rfl⟩)
    intro B hB
    have ex : x3.toNatClampNeg = x := by
      show x3.toInt.toNat = x
      omega
    obtain ⟨l, t, e, ha⟩ := AT9_of h hN (x := x) (by omega)
    have ha' := ha
    obtain ⟨x5, l7, hs, hg, hx, f1, f2, f3⟩ := ha'
    have ge := hg.1
    have gn := hg.2.1
    -- the node is the one exactly when the leaf is in it
    have one : l = C9 S i → t ≤ i → i < e → (x : Int) = NB (n9 S) (C9 S) (P9 S) (64 * C9 S i + s) := by
      intro z1 z2 z3
      subst z1
      have k := NST_one hs s2 z2 s1 (fun k k1 k2 => hg.2.2.1 k k1 (by omega)) s4
      rw [← k]
      exact hx
    have back : (x : Int) = NB (n9 S) (C9 S) (P9 S) (64 * C9 S i + s) → l = C9 S i ∧ t ≤ i ∧ i < e := by
      intro z
      have w : 64 * l + t = 64 * C9 S i + s := CTP_inj (P := IsN (n9 S) (C9 S) (P9 S)) ((IsN_at (by omega)).mpr hs) ((IsN_at (by omega)).mpr s2) (by show NB (n9 S) (C9 S) (P9 S) (64 * l + t) = NB (n9 S) (C9 S) (P9 S) (64 * C9 S i + s); omega)
      have el : l = C9 S i := by omega
      have et : t = s := by omega
      refine ⟨el, by omega, ?_⟩
      apply Classical.byContradiction
      intro y
      have q := s4 e (by omega) (by omega)
      refine hg.2.2.2 (by omega) ⟨by rw [el]; exact q.1, ?_⟩
      rw [el, et]
      exact q.2
    unfold wp_X9_nodeOf_28b
    rw [ex]
    refine ⟨fun c => ?_, fun c => ⟨pt_in (by omega) (by omega), fun d => ?_, fun d => ⟨pt_in (by omega) (by omega), fun d2 => ?_, fun d2 => fx9_lastOf e3 x5 f2 f3 ge (by omega) (fun r1 hr => ⟨fun d3 => ?_, fun d3 => ?_⟩)⟩⟩⟩
    · simp only [pn] at c
      omega
    · simp only [pn] at d
      unfold wp_X9_nodeOf_67
      refine hB ?_
      apply Classical.byContradiction
      intro y
      have := back (by omega)
      omega
    · simp only [pn] at d2
      unfold wp_X9_nodeOf_67
      refine hB ?_
      apply Classical.byContradiction
      intro y
      have := back (by omega)
      omega
    · simp only [pn] at d3
      unfold wp_X9_nodeOf_67
      refine hB ?_
      apply Classical.byContradiction
      intro y
      have := back (by omega)
      omega
    · simp only [pn] at d d2 d3
      refine hq x3 ?_
      have := one (by omega) (by omega) (by omega)
      rw [s3]
      omega
  have c9 : b9g_lengths S (64 + i) = b9g_lengths S (64 + i) := rfl
  have ln : L9 S i = (b9g_lengths S (64 + i)).toInt.toNat := rfl
  unfold wp_X9_nodeOf wp_X9_isEnded
  refine ⟨pt_in (by omega) (by omega), fx9_lengthOf (by omega) (by omega) ?_⟩
  rw [ei]
  refine ⟨fun c => ⟨rfl, fun _ => ⟨pt_in (by omega) (by omega), loop _ ?_⟩, fun z => absurd rfl z⟩, fun c => ⟨rfl, fun z => absurd z (by decide), fun _ => ⟨pt_in (by omega) (by omega), loop _ ?_⟩⟩⟩
  · simp only [pn] at c
    rw [pt_sub (by rw [pl_1]; omega) (by rw [pl_1]; omega), pl_1]
    omega
  · simp only [pn] at c
    omega
/-! a look -/
def SMB (b : Nat → Nat) : Nat → Int
  | 0 => 0
  | i + 1 => SMB b i + (b i : Int)
theorem SMB_congr {b d : Nat → Nat} : ∀ n : Nat, (∀ i, i < n → b i = d i) → SMB b n = SMB d n := by
  intro n
  induction n with
  | zero => exact fun _ => rfl
  | succ n ih =>
    intro h
    show SMB b n + (b n : Int) = SMB d n + (d n : Int)
    rw [ih (fun i hi => h i (by omega)), h n (by omega)]
theorem SMB_rng {b : Nat → Nat} (hb : ∀ i, b i ≤ 8) : ∀ n : Nat, 0 ≤ SMB b n ∧ SMB b n ≤ 8 * (n : Int) := by
  intro n
  induction n with
  | zero => exact ⟨Int.le_refl _, Int.le_refl _⟩
  | succ n ih =>
    have := hb n
    show 0 ≤ SMB b n + (b n : Int) ∧ SMB b n + (b n : Int) ≤ 8 * ((n + 1 : Nat) : Int)
    omega
theorem fx_allEnded {X : bT1} (o : LVO X) (j : J1 X) {Q : Int32 → Prop} (hq : ∀ r : Int32, r.toInt = CTP (fun i => tC X i = tL X i) (tn X) → Q r) : wp_X1_allEnded X Q := by
  have jn := tnn j
  have jo := J0g_count (J1g_owners j)
  unfold wp_X1_allEnded wp_X1_allEnded_4
  refine ⟨fun k x1 x2 => ∃ i : Nat, x2.toInt = (i : Int) ∧ i ≤ tn X ∧ x1.toInt = CTP (fun i => tC X i = tL X i) i ∧ k = 64 - i, ⟨_, 0, rfl, by omega, rfl, rfl⟩, ?_⟩
  rintro k x1 x2 ⟨i, e2, hi, hv, hk⟩
  have cr := CTP_rng (fun i => tC X i = tL X i) i
  suffices H : ∀ B : Int32 → Int32 → Prop, (∀ v : Int32, i < tn X → v.toInt = CTP (fun i => tC X i = tL X i) (i + 1) → B v (x2 + 1)) → wp_X1_allEnded_4b X x1 x2 Q B from H _ (fun v h t => ⟨64 - (i + 1), by omega, i + 1, by rw [pt_add (by rw [pl_1]; omega) (by rw [pl_1]; omega), pl_1, e2]; omega, by omega, t, rfl⟩)
  intro B hB
  unfold wp_X1_allEnded_4b
  refine ⟨fun c => ?_, fun c => ?_⟩
  · simp only [pn] at c
    have ei : i = tn X := by omega
    rw [ei] at hv
    exact hq x1 hv
  simp only [pn] at c
  refine fx_endAt o j e2 (by omega) (fun r1 hr => ⟨fun d => ?_, fun d => ?_⟩)
  · unfold wp_X1_allEnded_29
    refine hB _ (by omega) ?_
    rw [CTP_n (P := fun i => tC X i = tL X i) (hr.mp d), pt_add (by rw [pl_0]; omega) (by rw [pl_0]; omega), pl_0, hv]
    omega
  · unfold wp_X1_allEnded_29
    refine hB _ (by omega) ?_
    rw [CTP_y (P := fun i => tC X i = tL X i) (Classical.byContradiction (fun z => d (hr.mpr z))), pt_add (by rw [pl_1]; omega) (by rw [pl_1]; omega), pl_1, hv]
theorem fx_allBytes {X : bT1} (o : LVO X) (j : J1 X) {Q : Int32 → Prop} (hq : ∀ r : Int32, r.toInt = SMB (fun i => min (min (tC X i + 1) (tL X i)) 8) (tn X) → Q r) : wp_X1_allBytes X Q := by
  have jn := tnn j
  have jo := J0g_count (J1g_owners j)
  have G := tG o j
  unfold wp_X1_allBytes wp_X1_allBytes_4
  refine ⟨fun k x1 x2 => ∃ i : Nat, x2.toInt = (i : Int) ∧ i ≤ tn X ∧ x1.toInt = SMB (fun i => min (min (tC X i + 1) (tL X i)) 8) i ∧ k = 64 - i, ⟨_, 0, rfl, by omega, rfl, rfl⟩, ?_⟩
  rintro k x1 x2 ⟨i, e2, hi, hv, hk⟩
  have cr := SMB_rng (b := fun i => min (min (tC X i + 1) (tL X i)) 8) (fun i => Nat.min_le_right _ _) i
  suffices H : ∀ B : Int32 → Int32 → Prop, (∀ v : Int32, i < tn X → v.toInt = SMB (fun i => min (min (tC X i + 1) (tL X i)) 8) (i + 1) → B v (x2 + 1)) → wp_X1_allBytes_4b X x1 x2 Q B from H _ (fun v h t => ⟨64 - (i + 1), by omega, i + 1, by rw [pt_add (by rw [pl_1]; omega) (by rw [pl_1]; omega), pl_1, e2]; omega, by omega, t, rfl⟩)
  intro B hB
  unfold wp_X1_allBytes_4b
  refine ⟨fun c => ?_, fun c => ?_⟩
  · simp only [pn] at c
    have ei : i = tn X := by omega
    rw [ei] at hv
    exact hq x1 hv
  simp only [pn] at c
  refine fx_lenAt o j e2 (by omega) (fun r1 hr => hB _ (by omega) ?_)
  have ai := G.2.1 i (by omega)
  show (x1 + r1).toInt = SMB (fun i => min (min (tC X i + 1) (tL X i)) 8) i + ((min (min (tC X i + 1) (tL X i)) 8 : Nat) : Int)
  rw [pt_add (by omega) (by omega), hv, hr]
  omega
theorem fx9_isEnded {S : bT9} (h : R9 S) {a : Int32} {i : Nat} {Q : Int32 → Prop} (h0 : a.toInt = (i : Int)) (h1 : i < n9 S) (hk : K9 S) (hq : ∀ r : Int32, (r = 0 ↔ ¬ C9 S i = L9 S i) → Q r) : wp_X9_isEnded S a Q := by
  have g64 := h.1.1
  have bi := (h.2.2 i h1).2
  have lr := K9g_lengths hk (64 + i)
  have ln : L9 S i = (b9g_lengths S (64 + i)).toInt.toNat := rfl
  have ei : a.toNatClampNeg = i := by
    show a.toInt.toNat = i
    omega
  unfold wp_X9_isEnded
  refine ⟨pt_in (by omega) (by omega), fx9_lengthOf (by omega) (by omega) ?_⟩
  rw [ei]
  refine ⟨fun c => ⟨rfl, hq _ ⟨fun _ => ?_, fun _ => rfl⟩⟩, fun c => ⟨rfl, hq _ ⟨fun z => absurd z (by decide), fun z => absurd ?_ z⟩⟩⟩
  · simp only [pn] at c
    omega
  · simp only [pn] at c
    omega
theorem fx9_endedMany {S : bT9} (h : R9 S) (hk : K9 S) {Q : Int32 → Prop} (hq : ∀ r : Int32, r.toInt = CTP (fun i => C9 S i = L9 S i) (n9 S) → Q r) : wp_X9_endedMany S Q := by
  have g64 := h.1.1
  have en : ((n9 S : Nat) : Int) = (b9g_now S 9).toInt := by have := h.2.1; unfold n9; omega
  unfold wp_X9_endedMany wp_X9_endedMany_4
  refine ⟨fun k x1 x2 => ∃ i : Nat, x2.toInt = (i : Int) ∧ i ≤ n9 S ∧ x1.toInt = CTP (fun i => C9 S i = L9 S i) i ∧ k = 64 - i, ⟨_, 0, rfl, by omega, rfl, rfl⟩, ?_⟩
  rintro k x1 x2 ⟨i, e2, hi, hv, hk'⟩
  have cr := CTP_rng (fun i => C9 S i = L9 S i) i
  suffices H : ∀ B : Int32 → Int32 → Prop, (∀ v : Int32, i < n9 S → v.toInt = CTP (fun i => C9 S i = L9 S i) (i + 1) → B v (x2 + 1)) → wp_X9_endedMany_4b S x1 x2 Q B from H _ (fun v h t => ⟨64 - (i + 1), by omega, i + 1, by rw [pt_add (by rw [pl_1]; omega) (by rw [pl_1]; omega), pl_1, e2]; omega, by omega, t, rfl⟩)
  intro B hB
  have e9 : b9g_now S ((9 : Int32)).toNatClampNeg = b9g_now S 9 := rfl
  unfold wp_X9_endedMany_4b
  rw [e9]
  refine ⟨pt_in (by decide) (by decide), fun c => ?_, fun c => ?_⟩
  · simp only [pn] at c
    have ei : i = n9 S := by omega
    rw [ei] at hv
    exact hq x1 hv
  simp only [pn] at c
  refine fx9_isEnded h e2 (by omega) hk (fun r1 hr => ⟨fun d => ?_, fun d => ?_⟩)
  · unfold wp_X9_endedMany_27
    refine hB _ (by omega) ?_
    rw [CTP_n (P := fun i => C9 S i = L9 S i) (hr.mp d), hv]
  · unfold wp_X9_endedMany_27
    refine hB _ (by omega) ?_
    rw [CTP_y (P := fun i => C9 S i = L9 S i) (Classical.byContradiction (fun z => d (hr.mpr z))), pt_add (by rw [pl_1]; omega) (by rw [pl_1]; omega), pl_1, hv]
theorem fx9_beginningBytes {S : bT9} (h : R9 S) {Q : Int32 → Prop} (hq : ∀ r : Int32, r.toInt = SMB (fun i => min (min (C9 S i + 1) (L9 S i)) 8) (n9 S) → Q r) : wp_X9_beginningBytes S Q := by
  have g64 := h.1.1
  have en : ((n9 S : Nat) : Int) = (b9g_now S 9).toInt := by have := h.2.1; unfold n9; omega
  unfold wp_X9_beginningBytes wp_X9_beginningBytes_4
  refine ⟨fun k x1 x2 => ∃ i : Nat, x2.toInt = (i : Int) ∧ i ≤ n9 S ∧ x1.toInt = SMB (fun i => min (min (C9 S i + 1) (L9 S i)) 8) i ∧ k = 64 - i, ⟨_, 0, rfl, by omega, rfl, rfl⟩, ?_⟩
  rintro k x1 x2 ⟨i, e2, hi, hv, hk'⟩
  have cr := SMB_rng (b := fun i => min (min (C9 S i + 1) (L9 S i)) 8) (fun i => Nat.min_le_right _ _) i
  suffices H : ∀ B : Int32 → Int32 → Prop, (∀ v : Int32, i < n9 S → v.toInt = SMB (fun i => min (min (C9 S i + 1) (L9 S i)) 8) (i + 1) → B v (x2 + 1)) → wp_X9_beginningBytes_4b S x1 x2 Q B from H _ (fun v h t => ⟨64 - (i + 1), by omega, i + 1, by rw [pt_add (by rw [pl_1]; omega) (by rw [pl_1]; omega), pl_1, e2]; omega, by omega, t, rfl⟩)
  intro B hB
  have e9 : b9g_now S ((9 : Int32)).toNatClampNeg = b9g_now S 9 := rfl
  have ei : x2.toNatClampNeg = i := by
    show x2.toInt.toNat = i
    omega
  unfold wp_X9_beginningBytes_4b
  rw [e9, ei]
  refine ⟨pt_in (by decide) (by decide), fun c => ?_, fun c => ?_⟩
  · simp only [pn] at c
    have ei : i = n9 S := by omega
    rw [ei] at hv
    exact hq x1 hv
  simp only [pn] at c
  have bi := (h.2.2 i (by omega)).1
  have ai := h.1.2.1 i (by omega)
  refine ⟨pt_in (by omega) (by omega), hB _ (by omega) ?_⟩
  show (x1 + b9g_beginning S i).toInt = SMB (fun i => min (min (C9 S i + 1) (L9 S i)) 8) i + ((min (min (C9 S i + 1) (L9 S i)) 8 : Nat) : Int)
  rw [pt_add (by omega) (by omega), hv, bi]
  omega
