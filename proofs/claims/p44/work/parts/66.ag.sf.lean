theorem sg_X9_laysNode {S : bT9} (hJ : J9 S) {a1 : Int32} {Q : bT9 → Prop} {x l s e u : Nat} (h : R9 S) (hN : N9 S) (ha : AT9 S x l s e) (h1 : a1.toInt = (x : Int)) (hu8 : u ≤ 8) (hun : (b9g_upperNodes S).toInt = NB (n9 S) (C9 S) (P9 S) (64 * u)) (hi0 : ((b9g_itemMany S).toInt = max 0 ((EB (n9 S) (C9 S) (P9 S) (64 * l + s)) - (EB (n9 S) (C9 S) (P9 S) (64 * u))) ∧ IAR (n9 S) (C9 S) (L9 S) (P9 S) (fun j => b9g_keys S (64 + j)) (b9g_itemNode S) (b9g_itemByte S) (b9g_itemChild S) (64 * u) (64 * l + s))) (hz0 : ((b9g_places S).toInt = LB (n9 S) (C9 S) (64 * l + s) ∧ PLR (n9 S) (C9 S) (b9g_placeOf S) (b9g_leafOfPlace S) (64 * l + s))) (hq : ∀ V : bT9, J9 V → F_X9_laysNode S V → ((b9g_itemMany V).toInt = max 0 ((EB (n9 S) (C9 S) (P9 S) (64 * l + e)) - (EB (n9 S) (C9 S) (P9 S) (64 * u))) ∧ IAR (n9 S) (C9 S) (L9 S) (P9 S) (fun j => b9g_keys S (64 + j)) (b9g_itemNode V) (b9g_itemByte V) (b9g_itemChild V) (64 * u) (64 * l + e)) → ((b9g_places V).toInt = LB (n9 S) (C9 S) (64 * l + e) ∧ PLR (n9 S) (C9 S) (b9g_placeOf V) (b9g_leafOfPlace V) (64 * l + e)) → Q V) : wp_X9_laysNode S a1 Q := by
  have G := h.1
  have g64 := G.1
  have ha' := ha
  obtain ⟨x5, l7, hs, hg, hx, e1, e2, e3⟩ := ha'
  have sn := hs.1
  have ge := hg.1
  have gn := hg.2.1
  have em : a1.toNatClampNeg = x := by
    show a1.toInt.toNat = x
    omega
  have lbn : LB (n9 S) (C9 S) 512 = ((n9 S) : Int) := LB_all (n9 S) g64 (fun i hi => (G.2.1 i hi).2.2.2)
  have low : x < NB (n9 S) (C9 S) (P9 S) (64 * u) ↔ l < u := by
    constructor
    · intro t
      apply Classical.byContradiction
      intro t2
      have := NB_mono (n := (n9 S)) (C := (C9 S)) (P := (P9 S)) (show 64 * u ≤ 64 * l + s by omega)
      omega
    · intro t
      have lt : NB (n9 S) (C9 S) (P9 S) (64 * l + s) < NB (n9 S) (C9 S) (P9 S) (64 * u) := CTP_lt (by omega) ((IsN_at (by omega)).mpr hs)
      omega
  have sm : ∀ V : bT9, F_X9_laysNode S V → SM9 V S := fun V hF => ⟨hF.2.2.1, hF.2.2.2.1, hF.2.1⟩
  have rV : ∀ V : bT9, F_X9_laysNode S V → R9 V := fun V hF => R9_same h (sm V hF) (hF.2.2.2.2.2.2.2.2.2.2.2.1) (hF.2.2.2.2.2.2.2.2.2.2.1)
  have nV : ∀ V : bT9, F_X9_laysNode S V → N9 V := fun V hF => N9_same hN (sm V hF) (hF.2.2.2.2.2.2.2.2.2.2.2.2.2.1) (hF.2.2.2.2.2.2.2.2.2.2.2.2.2.2.1) (hF.2.2.2.2.2.2.2.2.2.2.2.2.2.2.2.1) (hF.2.2.2.2.2.2.2.2.2.2.2.2.2.2.2.2.1)
  have aV : ∀ V : bT9, F_X9_laysNode S V → AT9 V x l s e := fun V hF => AT9_same ha (sm V hF) (hF.2.2.2.2.2.2.2.2.2.2.2.2.2.1) (hF.2.2.2.2.2.2.2.2.2.2.2.2.2.2.1) (hF.2.2.2.2.2.2.2.2.2.2.2.2.2.2.2.1)
  have grp : ∀ i, i < e → ∀ q, s ≤ q → q ≤ i → l ≤ (C9 S) q ∧ (P9 S) l q = (P9 S) l s := fun i hi q q1 q2 => hg.2.2.1 q q1 (by omega)
  have w1 : ∀ i, i < 64 → (64 * l + i) / 64 = l := fun i hi => gd1 l hi
  have w2 : ∀ i, i < 64 → (64 * l + i) % 64 = i := fun i hi => gd2 l hi
  have place : ∀ (V : bT9) (i : Nat) (a : Int32) (R : bT9 → Prop), J9 V → F_X9_laysNode S V → a.toInt = (i : Int) → i < (n9 S) → (C9 S) i = l → ((b9g_places V).toInt = LB (n9 S) (C9 S) (64 * l + i) ∧ PLR (n9 S) (C9 S) (b9g_placeOf V) (b9g_leafOfPlace V) (64 * l + i)) → (∀ W : bT9, J9 W → F_X9_laysNode S W → ((b9g_places W).toInt = LB (n9 S) (C9 S) (64 * l + i + 1) ∧ PLR (n9 S) (C9 S) (b9g_placeOf W) (b9g_leafOfPlace W) (64 * l + i + 1)) → b9g_itemMany W = b9g_itemMany V → b9g_itemNode W = b9g_itemNode V → b9g_itemByte W = b9g_itemByte V → b9g_itemChild W = b9g_itemChild V → R W) → wp_X9_places V a R := by
    intro V i a R hJV hF hai hin hC hZ hR
    have hL : IsL (n9 S) (C9 S) (64 * l + i) := (IsL_at (by omega)).mpr ⟨hin, hC⟩
    have lt : LB (n9 S) (C9 S) (64 * l + i) < LB (n9 S) (C9 S) 512 := CTP_lt (by omega) hL
    have l0 : 0 ≤ LB (n9 S) (C9 S) (64 * l + i) := (CTP_rng _ _).1
    have t : LB (n9 S) (C9 S) (64 * l + i + 1) = LB (n9 S) (C9 S) (64 * l + i) + 1 := CTP_y hL
    have ea : a.toNatClampNeg = i := by
      show a.toInt.toNat = i
      omega
    have hZ1 := hZ.1
    obtain ⟨m, emm⟩ : ∃ m : Nat, (b9g_places V).toInt = (m : Int) := ⟨(b9g_places V).toInt.toNat, by omega⟩
    have epm : (b9g_places V).toNatClampNeg = m := by
      show (b9g_places V).toInt.toNat = m
      omega
    refine sf_X9_places hJV (by omega) (by omega) (by omega) (fun W hJW hfW p1 p2 p3 => ?_)
    rw [ea] at p2
    rw [epm] at p3
    refine hR W hJW ⟨(hfW.1).trans (hF.1), (hfW.2.1).trans (hF.2.1), (hfW.2.2.1).trans (hF.2.2.1), (hfW.2.2.2.1).trans (hF.2.2.2.1), (hfW.2.2.2.2.1).trans (hF.2.2.2.2.1), (hfW.2.2.2.2.2.1).trans (hF.2.2.2.2.2.1), (hfW.2.2.2.2.2.2.1).trans (hF.2.2.2.2.2.2.1), (hfW.2.2.2.2.2.2.2.1).trans (hF.2.2.2.2.2.2.2.1), (hfW.2.2.2.2.2.2.2.2.1).trans (hF.2.2.2.2.2.2.2.2.1), (hfW.2.2.2.2.2.2.2.2.2.1).trans (hF.2.2.2.2.2.2.2.2.2.1), (hfW.2.2.2.2.2.2.2.2.2.2.1).trans (hF.2.2.2.2.2.2.2.2.2.2.1), (hfW.2.2.2.2.2.2.2.2.2.2.2.1).trans (hF.2.2.2.2.2.2.2.2.2.2.2.1), (hfW.2.2.2.2.2.2.2.2.2.2.2.2.1).trans (hF.2.2.2.2.2.2.2.2.2.2.2.2.1), (hfW.2.2.2.2.2.2.2.2.2.2.2.2.2.1).trans (hF.2.2.2.2.2.2.2.2.2.2.2.2.2.1), (hfW.2.2.2.2.2.2.2.2.2.2.2.2.2.2.1).trans (hF.2.2.2.2.2.2.2.2.2.2.2.2.2.2.1), (hfW.2.2.2.2.2.2.2.2.2.2.2.2.2.2.2.1).trans (hF.2.2.2.2.2.2.2.2.2.2.2.2.2.2.2.1), (hfW.2.2.2.2.2.2.2.2.2.2.2.2.2.2.2.2.1).trans (hF.2.2.2.2.2.2.2.2.2.2.2.2.2.2.2.2.1), (hfW.2.2.2.2.2.2.2.2.2.2.2.2.2.2.2.2.2.1).trans (hF.2.2.2.2.2.2.2.2.2.2.2.2.2.2.2.2.2.1), (hfW.2.2.2.2.2.2.2.2.2.2.2.2.2.2.2.2.2.2.1).trans (hF.2.2.2.2.2.2.2.2.2.2.2.2.2.2.2.2.2.2.1), (hfW.2.2.2.2.2.2.2.2.2.2.2.2.2.2.2.2.2.2.2.1).trans (hF.2.2.2.2.2.2.2.2.2.2.2.2.2.2.2.2.2.2.2.1), (hfW.2.2.2.2.2.2.2.2.2.2.2.2.2.2.2.2.2.2.2.2.1).trans (hF.2.2.2.2.2.2.2.2.2.2.2.2.2.2.2.2.2.2.2.2.1), (hfW.2.2.2.2.2.2.2.2.2.2.2.2.2.2.2.2.2.2.2.2.2.2.2.2.2.1).trans (hF.2.2.2.2.2.2.2.2.2.2.2.2.2.2.2.2.2.2.2.2.2.1), (hfW.2.2.2.2.2.2.2.2.2.2.2.2.2.2.2.2.2.2.2.2.2.2.2.2.2.2.1).trans (hF.2.2.2.2.2.2.2.2.2.2.2.2.2.2.2.2.2.2.2.2.2.2.1), (hfW.2.2.2.2.2.2.2.2.2.2.2.2.2.2.2.2.2.2.2.2.2.2.2.2.2.2.2.1).trans (hF.2.2.2.2.2.2.2.2.2.2.2.2.2.2.2.2.2.2.2.2.2.2.2.1), (hfW.2.2.2.2.2.2.2.2.2.2.2.2.2.2.2.2.2.2.2.2.2.2.2.2.2.2.2.2.1).trans (hF.2.2.2.2.2.2.2.2.2.2.2.2.2.2.2.2.2.2.2.2.2.2.2.2.1), (hfW.2.2.2.2.2.2.2.2.2.2.2.2.2.2.2.2.2.2.2.2.2.2.2.2.2.2.2.2.2.1).trans (hF.2.2.2.2.2.2.2.2.2.2.2.2.2.2.2.2.2.2.2.2.2.2.2.2.2.1), (hfW.2.2.2.2.2.2.2.2.2.2.2.2.2.2.2.2.2.2.2.2.2.2.2.2.2.2.2.2.2.2.1).trans (hF.2.2.2.2.2.2.2.2.2.2.2.2.2.2.2.2.2.2.2.2.2.2.2.2.2.2.1), (hfW.2.2.2.2.2.2.2.2.2.2.2.2.2.2.2.2.2.2.2.2.2.2.2.2.2.2.2.2.2.2.2.1).trans (hF.2.2.2.2.2.2.2.2.2.2.2.2.2.2.2.2.2.2.2.2.2.2.2.2.2.2.2.1), (hfW.2.2.2.2.2.2.2.2.2.2.2.2.2.2.2.2.2.2.2.2.2.2.2.2.2.2.2.2.2.2.2.2.1).trans (hF.2.2.2.2.2.2.2.2.2.2.2.2.2.2.2.2.2.2.2.2.2.2.2.2.2.2.2.2.1), (hfW.2.2.2.2.2.2.2.2.2.2.2.2.2.2.2.2.2.2.2.2.2.2.2.2.2.2.2.2.2.2.2.2.2.1).trans (hF.2.2.2.2.2.2.2.2.2.2.2.2.2.2.2.2.2.2.2.2.2.2.2.2.2.2.2.2.2.1), (hfW.2.2.2.2.2.2.2.2.2.2.2.2.2.2.2.2.2.2.2.2.2.2.2.2.2.2.2.2.2.2.2.2.2.2.1).trans (hF.2.2.2.2.2.2.2.2.2.2.2.2.2.2.2.2.2.2.2.2.2.2.2.2.2.2.2.2.2.2.1), (hfW.2.2.2.2.2.2.2.2.2.2.2.2.2.2.2.2.2.2.2.2.2.2.2.2.2.2.2.2.2.2.2.2.2.2.2.1).trans (hF.2.2.2.2.2.2.2.2.2.2.2.2.2.2.2.2.2.2.2.2.2.2.2.2.2.2.2.2.2.2.2.1), (hfW.2.2.2.2.2.2.2.2.2.2.2.2.2.2.2.2.2.2.2.2.2.2.2.2.2.2.2.2.2.2.2.2.2.2.2.2.1).trans (hF.2.2.2.2.2.2.2.2.2.2.2.2.2.2.2.2.2.2.2.2.2.2.2.2.2.2.2.2.2.2.2.2.1), (hfW.2.2.2.2.2.2.2.2.2.2.2.2.2.2.2.2.2.2.2.2.2.2.2.2.2.2.2.2.2.2.2.2.2.2.2.2.2.1).trans (hF.2.2.2.2.2.2.2.2.2.2.2.2.2.2.2.2.2.2.2.2.2.2.2.2.2.2.2.2.2.2.2.2.2.1), (hfW.2.2.2.2.2.2.2.2.2.2.2.2.2.2.2.2.2.2.2.2.2.2.2.2.2.2.2.2.2.2.2.2.2.2.2.2.2.2.1).trans (hF.2.2.2.2.2.2.2.2.2.2.2.2.2.2.2.2.2.2.2.2.2.2.2.2.2.2.2.2.2.2.2.2.2.2.1), (hfW.2.2.2.2.2.2.2.2.2.2.2.2.2.2.2.2.2.2.2.2.2.2.2.2.2.2.2.2.2.2.2.2.2.2.2.2.2.2.2.1).trans (hF.2.2.2.2.2.2.2.2.2.2.2.2.2.2.2.2.2.2.2.2.2.2.2.2.2.2.2.2.2.2.2.2.2.2.2.1), (hfW.2.2.2.2.2.2.2.2.2.2.2.2.2.2.2.2.2.2.2.2.2.2.2.2.2.2.2.2.2.2.2.2.2.2.2.2.2.2.2.2.1).trans (hF.2.2.2.2.2.2.2.2.2.2.2.2.2.2.2.2.2.2.2.2.2.2.2.2.2.2.2.2.2.2.2.2.2.2.2.2.1), (hfW.2.2.2.2.2.2.2.2.2.2.2.2.2.2.2.2.2.2.2.2.2.2.2.2.2.2.2.2.2.2.2.2.2.2.2.2.2.2.2.2.2.1).trans (hF.2.2.2.2.2.2.2.2.2.2.2.2.2.2.2.2.2.2.2.2.2.2.2.2.2.2.2.2.2.2.2.2.2.2.2.2.2.1), (hfW.2.2.2.2.2.2.2.2.2.2.2.2.2.2.2.2.2.2.2.2.2.2.2.2.2.2.2.2.2.2.2.2.2.2.2.2.2.2.2.2.2.2).trans (hF.2.2.2.2.2.2.2.2.2.2.2.2.2.2.2.2.2.2.2.2.2.2.2.2.2.2.2.2.2.2.2.2.2.2.2.2.2.2)⟩ ⟨by omega, ?_⟩ (hfW.2.2.2.2.2.2.2.2.2.2.2.2.2.2.2.2.2.2.2.2.2.2.2.2.1) (hfW.2.2.2.2.2.2.2.2.2.2.2.2.2.2.2.2.2.2.2.2.2.1) (hfW.2.2.2.2.2.2.2.2.2.2.2.2.2.2.2.2.2.2.2.2.2.2.1) (hfW.2.2.2.2.2.2.2.2.2.2.2.2.2.2.2.2.2.2.2.2.2.2.2.1)
    rw [p2, p3]
    exact PLR_add hZ.2 hL (by omega) (w2 i (by omega)) emm hai
  have item : ∀ (V : bT9) (i : Nat) (a2 a3 : Int32) (R : bT9 → Prop), J9 V → F_X9_laysNode S V → s ≤ i → i < e → EST (n9 S) (C9 S) (P9 S) l i → u ≤ l → a2 = OCV (fun j => b9g_keys S (64 + j)) (L9 S) (64 * l + i) → (a3 = -1 ↔ (C9 S) i = l) → ((b9g_itemMany V).toInt = max 0 ((EB (n9 S) (C9 S) (P9 S) (64 * l + i)) - (EB (n9 S) (C9 S) (P9 S) (64 * u))) ∧ IAR (n9 S) (C9 S) (L9 S) (P9 S) (fun j => b9g_keys S (64 + j)) (b9g_itemNode V) (b9g_itemByte V) (b9g_itemChild V) (64 * u) (64 * l + i)) → (∀ W : bT9, J9 W → F_X9_laysNode S W → ((b9g_itemMany W).toInt = max 0 ((EB (n9 S) (C9 S) (P9 S) (64 * l + i + 1)) - (EB (n9 S) (C9 S) (P9 S) (64 * u))) ∧ IAR (n9 S) (C9 S) (L9 S) (P9 S) (fun j => b9g_keys S (64 + j)) (b9g_itemNode W) (b9g_itemByte W) (b9g_itemChild W) (64 * u) (64 * l + i + 1)) → b9g_places W = b9g_places V → b9g_placeOf W = b9g_placeOf V → b9g_leafOfPlace W = b9g_leafOfPlace V → R W) → wp_X9_laysItem V a1 a2 a3 R := by
    intro V i a2 a3 R hJV hF hsi hie hE hul h2 h3 hI hR
    have hIs : IsE (n9 S) (C9 S) (P9 S) (64 * l + i) := (IsE_at (by omega)).mpr hE
    have t : (EB (n9 S) (C9 S) (P9 S) (64 * l + i + 1)) = (EB (n9 S) (C9 S) (P9 S) (64 * l + i)) + 1 := CTP_y hIs
    have b1 := EB_le G (w := 64 * l + i) (by omega)
    have b2 := EB_le G (w := 64 * u) (by omega)
    have mn := EB_mono (n := (n9 S)) (C := (C9 S)) (P := (P9 S)) (show 64 * u ≤ 64 * l + i by omega)
    have hI1 := hI.1
    obtain ⟨m, emm⟩ : ∃ m : Nat, (b9g_itemMany V).toInt = (m : Int) := ⟨(b9g_itemMany V).toInt.toNat, by omega⟩
    have epm : (b9g_itemMany V).toNatClampNeg = m := by
      show (b9g_itemMany V).toInt.toNat = m
      omega
    refine sf_X9_laysItem hJV (by omega) (fun W hJW hfW p1 p2 p3 p4 => ?_)
    rw [epm] at p2 p3 p4
    refine hR W hJW ⟨(hfW.1).trans (hF.1), (hfW.2.1).trans (hF.2.1), (hfW.2.2.1).trans (hF.2.2.1), (hfW.2.2.2.1).trans (hF.2.2.2.1), (hfW.2.2.2.2.1).trans (hF.2.2.2.2.1), (hfW.2.2.2.2.2.1).trans (hF.2.2.2.2.2.1), (hfW.2.2.2.2.2.2.1).trans (hF.2.2.2.2.2.2.1), (hfW.2.2.2.2.2.2.2.1).trans (hF.2.2.2.2.2.2.2.1), (hfW.2.2.2.2.2.2.2.2.1).trans (hF.2.2.2.2.2.2.2.2.1), (hfW.2.2.2.2.2.2.2.2.2.1).trans (hF.2.2.2.2.2.2.2.2.2.1), (hfW.2.2.2.2.2.2.2.2.2.2.1).trans (hF.2.2.2.2.2.2.2.2.2.2.1), (hfW.2.2.2.2.2.2.2.2.2.2.2.1).trans (hF.2.2.2.2.2.2.2.2.2.2.2.1), (hfW.2.2.2.2.2.2.2.2.2.2.2.2.1).trans (hF.2.2.2.2.2.2.2.2.2.2.2.2.1), (hfW.2.2.2.2.2.2.2.2.2.2.2.2.2.1).trans (hF.2.2.2.2.2.2.2.2.2.2.2.2.2.1), (hfW.2.2.2.2.2.2.2.2.2.2.2.2.2.2.1).trans (hF.2.2.2.2.2.2.2.2.2.2.2.2.2.2.1), (hfW.2.2.2.2.2.2.2.2.2.2.2.2.2.2.2.1).trans (hF.2.2.2.2.2.2.2.2.2.2.2.2.2.2.2.1), (hfW.2.2.2.2.2.2.2.2.2.2.2.2.2.2.2.2.1).trans (hF.2.2.2.2.2.2.2.2.2.2.2.2.2.2.2.2.1), (hfW.2.2.2.2.2.2.2.2.2.2.2.2.2.2.2.2.2.1).trans (hF.2.2.2.2.2.2.2.2.2.2.2.2.2.2.2.2.2.1), (hfW.2.2.2.2.2.2.2.2.2.2.2.2.2.2.2.2.2.2.1).trans (hF.2.2.2.2.2.2.2.2.2.2.2.2.2.2.2.2.2.2.1), (hfW.2.2.2.2.2.2.2.2.2.2.2.2.2.2.2.2.2.2.2.1).trans (hF.2.2.2.2.2.2.2.2.2.2.2.2.2.2.2.2.2.2.2.1), (hfW.2.2.2.2.2.2.2.2.2.2.2.2.2.2.2.2.2.2.2.2.1).trans (hF.2.2.2.2.2.2.2.2.2.2.2.2.2.2.2.2.2.2.2.2.1), (hfW.2.2.2.2.2.2.2.2.2.2.2.2.2.2.2.2.2.2.2.2.2.2.2.2.1).trans (hF.2.2.2.2.2.2.2.2.2.2.2.2.2.2.2.2.2.2.2.2.2.1), (hfW.2.2.2.2.2.2.2.2.2.2.2.2.2.2.2.2.2.2.2.2.2.2.2.2.2.1).trans (hF.2.2.2.2.2.2.2.2.2.2.2.2.2.2.2.2.2.2.2.2.2.2.1), (hfW.2.2.2.2.2.2.2.2.2.2.2.2.2.2.2.2.2.2.2.2.2.2.2.2.2.2.1).trans (hF.2.2.2.2.2.2.2.2.2.2.2.2.2.2.2.2.2.2.2.2.2.2.2.1), (hfW.2.2.2.2.2.2.2.2.2.2.2.2.2.2.2.2.2.2.2.2.2.2.2.2.2.2.2.1).trans (hF.2.2.2.2.2.2.2.2.2.2.2.2.2.2.2.2.2.2.2.2.2.2.2.2.1), (hfW.2.2.2.2.2.2.2.2.2.2.2.2.2.2.2.2.2.2.2.2.2.2.2.2.2.2.2.2.1).trans (hF.2.2.2.2.2.2.2.2.2.2.2.2.2.2.2.2.2.2.2.2.2.2.2.2.2.1), (hfW.2.2.2.2.2.2.2.2.2.2.2.2.2.2.2.2.2.2.2.2.2.2.2.2.2.2.2.2.2.1).trans (hF.2.2.2.2.2.2.2.2.2.2.2.2.2.2.2.2.2.2.2.2.2.2.2.2.2.2.1), (hfW.2.2.2.2.2.2.2.2.2.2.2.2.2.2.2.2.2.2.2.2.2.2.2.2.2.2.2.2.2.2.1).trans (hF.2.2.2.2.2.2.2.2.2.2.2.2.2.2.2.2.2.2.2.2.2.2.2.2.2.2.2.1), (hfW.2.2.2.2.2.2.2.2.2.2.2.2.2.2.2.2.2.2.2.2.2.2.2.2.2.2.2.2.2.2.2.1).trans (hF.2.2.2.2.2.2.2.2.2.2.2.2.2.2.2.2.2.2.2.2.2.2.2.2.2.2.2.2.1), (hfW.2.2.2.2.2.2.2.2.2.2.2.2.2.2.2.2.2.2.2.2.2.2.2.2.2.2.2.2.2.2.2.2.1).trans (hF.2.2.2.2.2.2.2.2.2.2.2.2.2.2.2.2.2.2.2.2.2.2.2.2.2.2.2.2.2.1), (hfW.2.2.2.2.2.2.2.2.2.2.2.2.2.2.2.2.2.2.2.2.2.2.2.2.2.2.2.2.2.2.2.2.2.1).trans (hF.2.2.2.2.2.2.2.2.2.2.2.2.2.2.2.2.2.2.2.2.2.2.2.2.2.2.2.2.2.2.1), (hfW.2.2.2.2.2.2.2.2.2.2.2.2.2.2.2.2.2.2.2.2.2.2.2.2.2.2.2.2.2.2.2.2.2.2.1).trans (hF.2.2.2.2.2.2.2.2.2.2.2.2.2.2.2.2.2.2.2.2.2.2.2.2.2.2.2.2.2.2.2.1), (hfW.2.2.2.2.2.2.2.2.2.2.2.2.2.2.2.2.2.2.2.2.2.2.2.2.2.2.2.2.2.2.2.2.2.2.2.1).trans (hF.2.2.2.2.2.2.2.2.2.2.2.2.2.2.2.2.2.2.2.2.2.2.2.2.2.2.2.2.2.2.2.2.1), (hfW.2.2.2.2.2.2.2.2.2.2.2.2.2.2.2.2.2.2.2.2.2.2.2.2.2.2.2.2.2.2.2.2.2.2.2.2.1).trans (hF.2.2.2.2.2.2.2.2.2.2.2.2.2.2.2.2.2.2.2.2.2.2.2.2.2.2.2.2.2.2.2.2.2.1), (hfW.2.2.2.2.2.2.2.2.2.2.2.2.2.2.2.2.2.2.2.2.2.2.2.2.2.2.2.2.2.2.2.2.2.2.2.2.2.1).trans (hF.2.2.2.2.2.2.2.2.2.2.2.2.2.2.2.2.2.2.2.2.2.2.2.2.2.2.2.2.2.2.2.2.2.2.1), (hfW.2.2.2.2.2.2.2.2.2.2.2.2.2.2.2.2.2.2.2.2.2.2.2.2.2.2.2.2.2.2.2.2.2.2.2.2.2.2.1).trans (hF.2.2.2.2.2.2.2.2.2.2.2.2.2.2.2.2.2.2.2.2.2.2.2.2.2.2.2.2.2.2.2.2.2.2.2.1), (hfW.2.2.2.2.2.2.2.2.2.2.2.2.2.2.2.2.2.2.2.2.2.2.2.2.2.2.2.2.2.2.2.2.2.2.2.2.2.2.2.1).trans (hF.2.2.2.2.2.2.2.2.2.2.2.2.2.2.2.2.2.2.2.2.2.2.2.2.2.2.2.2.2.2.2.2.2.2.2.2.1), (hfW.2.2.2.2.2.2.2.2.2.2.2.2.2.2.2.2.2.2.2.2.2.2.2.2.2.2.2.2.2.2.2.2.2.2.2.2.2.2.2.2.1).trans (hF.2.2.2.2.2.2.2.2.2.2.2.2.2.2.2.2.2.2.2.2.2.2.2.2.2.2.2.2.2.2.2.2.2.2.2.2.2.1), (hfW.2.2.2.2.2.2.2.2.2.2.2.2.2.2.2.2.2.2.2.2.2.2.2.2.2.2.2.2.2.2.2.2.2.2.2.2.2.2.2.2.2).trans (hF.2.2.2.2.2.2.2.2.2.2.2.2.2.2.2.2.2.2.2.2.2.2.2.2.2.2.2.2.2.2.2.2.2.2.2.2.2.2)⟩ ⟨by rw [t]; omega, ?_⟩ (hfW.2.2.2.2.2.2.2.2.2.2.2.2.2.2.2.2.2.2.2.2.2.2.2.1) (hfW.2.2.2.2.2.2.2.2.2.2.2.2.2.2.2.2.2.2.2.2.2.1) (hfW.2.2.2.2.2.2.2.2.2.2.2.2.2.2.2.2.2.2.2.2.2.2.1)
    rw [p2, p3, p4]
    have nb := NB_in g64 hs (grp i hie) hsi (by omega)
    refine IAR_add hI.2 hIs (by omega) (by rw [nb]; omega) h2 ?_
    rw [w1 i (by omega), w2 i (by omega)]
    exact h3
  have noitem : ∀ (V : bT9) (i : Nat), i < 64 → l < u → ((b9g_itemMany V).toInt = max 0 ((EB (n9 S) (C9 S) (P9 S) (64 * l + i)) - (EB (n9 S) (C9 S) (P9 S) (64 * u))) ∧ IAR (n9 S) (C9 S) (L9 S) (P9 S) (fun j => b9g_keys S (64 + j)) (b9g_itemNode V) (b9g_itemByte V) (b9g_itemChild V) (64 * u) (64 * l + i)) → ((b9g_itemMany V).toInt = max 0 ((EB (n9 S) (C9 S) (P9 S) (64 * l + i + 1)) - (EB (n9 S) (C9 S) (P9 S) (64 * u))) ∧ IAR (n9 S) (C9 S) (L9 S) (P9 S) (fun j => b9g_keys S (64 + j)) (b9g_itemNode V) (b9g_itemByte V) (b9g_itemChild V) (64 * u) (64 * l + i + 1)) := by
    intro V i hi hlu hI
    have m1 := EB_mono (n := (n9 S)) (C := (C9 S)) (P := (P9 S)) (show 64 * l + i ≤ 64 * u by omega)
    have m2 := EB_mono (n := (n9 S)) (C := (C9 S)) (P := (P9 S)) (show 64 * l + i + 1 ≤ 64 * u by omega)
    exact ⟨by rw [hI.1]; omega, IAR_skip hI.2 (fun w p q r => by omega)⟩
  have loop : ∀ (t0 : Int32) (V : bT9) (b : Nat), (t0 = 0 ↔ l < u) → J9 V → F_X9_laysNode S V → ((L9 S) s = l → b = 64 * l + s + 1) → (¬ (L9 S) s = l → b = 64 * l + s) → ((b9g_itemMany V).toInt = max 0 ((EB (n9 S) (C9 S) (P9 S) (b)) - (EB (n9 S) (C9 S) (P9 S) (64 * u))) ∧ IAR (n9 S) (C9 S) (L9 S) (P9 S) (fun j => b9g_keys S (64 + j)) (b9g_itemNode V) (b9g_itemByte V) (b9g_itemChild V) (64 * u) (b)) → ((b9g_places V).toInt = LB (n9 S) (C9 S) (b) ∧ PLR (n9 S) (C9 S) (b9g_placeOf V) (b9g_leafOfPlace V) (b)) → wp_X9_laysNode_43 V a1 t0 Q := by
    intro t0 V b ht hJV hFV hb1 hb2 hIV hZV
    have eFU : b9g_nodeLeaf V = b9g_nodeLeaf S := hFV.2.2.2.2.2.2.2.2.2.2.2.2.2.2.1
    unfold wp_X9_laysNode_43 wp_X9_laysNode_50
    rw [em, eFU]
    refine ⟨pt_in (by omega) (by omega), fun k y1 y2 x3 W => ∃ i b : Nat, a1 = y1 ∧ t0 = y2 ∧ x3.toInt = (i : Int) ∧ s ≤ i ∧ i ≤ e ∧ (i = s ∧ (L9 S) s = l → b = 64 * l + s + 1) ∧ (¬ (i = s ∧ (L9 S) s = l) → b = 64 * l + i) ∧ J9 W ∧ F_X9_laysNode S W ∧ ((b9g_itemMany W).toInt = max 0 ((EB (n9 S) (C9 S) (P9 S) (b)) - (EB (n9 S) (C9 S) (P9 S) (64 * u))) ∧ IAR (n9 S) (C9 S) (L9 S) (P9 S) (fun j => b9g_keys S (64 + j)) (b9g_itemNode W) (b9g_itemByte W) (b9g_itemChild W) (64 * u) (b)) ∧ ((b9g_places W).toInt = LB (n9 S) (C9 S) (b) ∧ PLR (n9 S) (C9 S) (b9g_placeOf W) (b9g_leafOfPlace W) (b)) ∧ k = e - i, ⟨_, s, b, rfl, rfl, e2, Nat.le_refl _, by omega, fun z => hb1 z.2, fun z => hb2 (fun y => z ⟨rfl, y⟩), hJV, hFV, hIV, hZV, rfl⟩, ?_⟩
    rintro k y1 y2 x3 W ⟨i, b, rfl, rfl, e3', hsi, hie, hc1, hc2, hJW, hFW, hIW, hZW, hk⟩
    suffices H : ∀ B : Int32 → Int32 → Int32 → bT9 → Prop, (∀ W' : bT9, i < e → J9 W' → F_X9_laysNode S W' → ((b9g_itemMany W').toInt = max 0 ((EB (n9 S) (C9 S) (P9 S) (64 * l + i + 1)) - (EB (n9 S) (C9 S) (P9 S) (64 * u))) ∧ IAR (n9 S) (C9 S) (L9 S) (P9 S) (fun j => b9g_keys S (64 + j)) (b9g_itemNode W') (b9g_itemByte W') (b9g_itemChild W') (64 * u) (64 * l + i + 1)) → ((b9g_places W').toInt = LB (n9 S) (C9 S) (64 * l + i + 1) ∧ PLR (n9 S) (C9 S) (b9g_placeOf W') (b9g_leafOfPlace W') (64 * l + i + 1)) → B a1 t0 (x3 + 1) W') → wp_X9_laysNode_50b W a1 t0 x3 Q B from H _ (fun W' hi t1 t2 t3 t4 => ⟨e - (i + 1), by omega, i + 1, 64 * l + i + 1, rfl, rfl, by rw [pt_add (by rw [pl_1]; omega) (by rw [pl_1]; omega), pl_1, e3']; omega, by omega, by omega, fun z => by omega, fun _ => by omega, t1, t2, t3, t4, rfl⟩)
    intro B hB
    have rW := rV W hFW
    have aW := aV W hFW
    have nW := nV W hFW
    obtain ⟨q1, q2, q3, q4⟩ := SM9_n (sm W hFW)
    unfold wp_X9_laysNode_50b
    refine fx9_lastOf h1 x5 aW.2.2.2.2.2.2.1 aW.2.2.2.2.2.2.2 ge (by omega) (fun r7 hr7 => ⟨fun c => ?_, fun c => ?_⟩)
    · simp only [pn] at c
      have ei : i = e := by omega
      have hb := hc2 (by omega)
      rw [hb, ei] at hIW hZW
      exact hq W hJW hFW hIW hZW
    simp only [pn] at c
    have hi : i < e := by omega
    refine fx9_isBranch rW aW h1 e3' hsi hi (fun r9 hr9 => ⟨fun c2 => ?_, fun c2 => ?_⟩)
    · have br : EST (n9 W) (C9 W) (P9 W) l i ∧ ¬ L9 W i = l := Classical.byContradiction (fun z => c2 (hr9.mpr z))
      have br2 := br
      rw [q1, q2, q3, q4] at br2
      have hb := hc2 (fun z => br2.2 (by rw [z.1]; exact z.2))
      rw [hb] at hIW hZW
      have fin : ∀ (W' : bT9) (r : Int32), J9 W' → F_X9_laysNode S W' → ((b9g_itemMany W').toInt = max 0 ((EB (n9 S) (C9 S) (P9 S) (64 * l + i)) - (EB (n9 S) (C9 S) (P9 S) (64 * u))) ∧ IAR (n9 S) (C9 S) (L9 S) (P9 S) (fun j => b9g_keys S (64 + j)) (b9g_itemNode W') (b9g_itemByte W') (b9g_itemChild W') (64 * u) (64 * l + i)) → ((b9g_places W').toInt = LB (n9 S) (C9 S) (64 * l + i + 1) ∧ PLR (n9 S) (C9 S) (b9g_placeOf W') (b9g_leafOfPlace W') (64 * l + i + 1)) → (r = -1 ↔ (C9 S) i = l) → wp_X9_laysNode_90 W' a1 t0 x3 r Q B := by
        intro W' r hJ' hF' hI' hZ' hr
        unfold wp_X9_laysNode_90 wp_X9_laysNode_116
        refine ⟨fun z => hB W' hi hJ' hF' (noitem W' i (by omega) (ht.mp z) hI') hZ', fun z => ?_⟩
        have hul : u ≤ l := by
          apply Classical.byContradiction
          intro y
          exact z (ht.mpr (by omega))
        have eL' : b9g_nodeLevel W' = b9g_nodeLevel S := hF'.2.2.2.2.2.2.2.2.2.2.2.2.2.1
        have eK' : b9g_keys W' = b9g_keys S := hF'.2.2.1
        have ex3 : x3.toNatClampNeg = i := by
          show x3.toInt.toNat = i
          omega
        have lvn : b9g_nodeLevel S x = nI l := Int32.toInt_inj.mp (by rw [nI_toInt (by omega)]; exact e1)
        refine fx9_key (by omega) (by omega) ?_
        rw [em, ex3, eL', eK']
        refine ⟨pt_in (by omega) (by omega), fx9_byteOf (item W' i _ _ _ hJ' hF' hsi hi br2.1 hul ?_ hr hI' (fun V2 v1 v2 v3 v4 v5 v6 => hB V2 hi v1 v2 v3 ⟨by rw [v4]; exact hZ'.1, by rw [v5, v6]; exact hZ'.2⟩))⟩
        unfold OCV
        rw [w1 i (by omega), w2 i (by omega), if_neg br2.2, lvn]
      refine fx9_childAt rW nW aW h1 e3' hsi hi br.1 (fun r11 hr11 => ?_)
      rw [q2] at hr11
      refine ⟨fun c3 => fin W r11 hJW hFW hIW ?_ hr11, fun c3 => ?_⟩
      · have nl : ¬ IsL (n9 S) (C9 S) (64 * l + i) := fun z => c3 (hr11.mpr ((IsL_at (by omega)).mp z).2)
        have t : LB (n9 S) (C9 S) (64 * l + i + 1) = LB (n9 S) (C9 S) (64 * l + i) := CTP_n nl
        exact ⟨by rw [t]; exact hZW.1, PLR_skip hZW.2 (fun w p q => by rw [show w = 64 * l + i by omega]; exact nl)⟩
      · refine place W i x3 _ hJW hFW e3' (by omega) (hr11.mp c3) hZW (fun V2 v1 v2 v3 v4 v5 v6 v7 => fin V2 r11 v1 v2 ?_ v3 hr11)
        rw [v4, v5, v6, v7]
        exact hIW
    · have nb := hr9.mp c2
      rw [q1, q2, q3, q4] at nb
      unfold wp_X9_laysNode_116
      by_cases z : (L9 S) i = l
      · have is := END_first G (grp i hi) hsi (by omega) z
        have hb := hc1 ⟨is, by rw [← is]; exact z⟩
        rw [hb] at hIW hZW
        rw [← is] at hIW hZW
        exact hB W hi hJW hFW hIW hZW
      · have ne : ¬ EST (n9 S) (C9 S) (P9 S) l i := fun y => nb ⟨y, z⟩
        have hb := hc2 (fun y => z (by rw [y.1]; exact y.2))
        rw [hb] at hIW hZW
        have nE : ¬ IsE (n9 S) (C9 S) (P9 S) (64 * l + i) := fun y => ne ((IsE_at (by omega)).mp y)
        have nl : ¬ IsL (n9 S) (C9 S) (64 * l + i) := fun y => nE (IsL_E y)
        have t : LB (n9 S) (C9 S) (64 * l + i + 1) = LB (n9 S) (C9 S) (64 * l + i) := CTP_n nl
        have t2 : (EB (n9 S) (C9 S) (P9 S) (64 * l + i + 1)) = (EB (n9 S) (C9 S) (P9 S) (64 * l + i)) := CTP_n nE
        exact hB W hi hJW hFW ⟨by rw [t2]; exact hIW.1, IAR_skip hIW.2 (fun w _ p q => by rw [show w = 64 * l + i by omega]; exact nE)⟩ ⟨by rw [t]; exact hZW.1, PLR_skip hZW.2 (fun w p q => by rw [show w = 64 * l + i by omega]; exact nl)⟩
  have hF0 : F_X9_laysNode S S := ⟨rfl, rfl, rfl, rfl, rfl, rfl, rfl, rfl, rfl, rfl, rfl, rfl, rfl, rfl, rfl, rfl, rfl, rfl, rfl, rfl, rfl, rfl, rfl, rfl, rfl, rfl, rfl, rfl, rfl, rfl, rfl, rfl, rfl, rfl, rfl, rfl, rfl, rfl, rfl⟩
  have start : ∀ t0 : Int32, (t0 = 0 ↔ l < u) → wp_X9_laysNode_13 S a1 t0 Q := by
    intro t0 ht
    unfold wp_X9_laysNode_13
    refine fx9_isNodeEnd h ha h1 (fun r15 hr => ⟨fun c => ?_, fun c => ?_⟩)
    · have nl := hr.mp c
      exact loop t0 S (64 * l + s) ht hJ hF0 (fun z => absurd z nl) (fun _ => rfl) hi0 hz0
    · have hL : (L9 S) s = l := Classical.byContradiction (fun z => c (hr.mpr z))
      have as := G.2.1 s sn
      have cs := hs.2.1
      have hC : (C9 S) s = l := by omega
      have hE : EST (n9 S) (C9 S) (P9 S) l s := ⟨sn, Or.inl hC⟩
      rw [em]
      refine ⟨pt_in (by omega) (by omega), place S s _ _ hJ hF0 e2 sn hC hz0 (fun W v1 v2 v3 v4 v5 v6 v7 => ?_)⟩
      have hIW : ((b9g_itemMany W).toInt = max 0 ((EB (n9 S) (C9 S) (P9 S) (64 * l + s)) - (EB (n9 S) (C9 S) (P9 S) (64 * u))) ∧ IAR (n9 S) (C9 S) (L9 S) (P9 S) (fun j => b9g_keys S (64 + j)) (b9g_itemNode W) (b9g_itemByte W) (b9g_itemChild W) (64 * u) (64 * l + s)) := by
        rw [v4, v5, v6, v7]
        exact hi0
      refine ⟨fun z => loop t0 W (64 * l + s + 1) ht v1 v2 (fun _ => rfl) (fun y => absurd hL y) (noitem W s (by omega) (ht.mp z) hIW) v3, fun z => ?_⟩
      have hul : u ≤ l := by
        apply Classical.byContradiction
        intro y
        exact z (ht.mpr (by omega))
      refine item W s _ _ _ v1 v2 (Nat.le_refl _) ge hE hul ?_ ⟨fun _ => hC, fun _ => rfl⟩ hIW (fun V2 k1 k2 k3 k4 k5 k6 => loop t0 V2 (64 * l + s + 1) ht k1 k2 (fun _ => rfl) (fun y => absurd hL y) k3 ⟨by rw [k4]; exact v3.1, by rw [k5, k6]; exact v3.2⟩)
      unfold OCV
      rw [w1 s (by omega), w2 s (by omega), if_pos hL]
  unfold wp_X9_laysNode
  refine ⟨fun c => start 0 ⟨fun _ => ?_, fun _ => rfl⟩, fun c => start 1 ⟨fun z => absurd z (by decide), fun z => absurd ?_ c⟩⟩
  · simp only [pn] at c
    exact low.mp (by omega)
  · simp only [pn]
    have := low.mpr z
    omega
def F_X9_laysItems (S u : bT9) : Prop := (b9g_told u) = (b9g_told S) ∧ (b9g_now u) = (b9g_now S) ∧ (b9g_keys u) = (b9g_keys S) ∧ (b9g_lengths u) = (b9g_lengths S) ∧ (b9g_drawn u) = (b9g_drawn S) ∧ (b9g_drawnLength u) = (b9g_drawnLength S) ∧ (b9g_tape u) = (b9g_tape S) ∧ (b9g_taped u) = (b9g_taped S) ∧ (b9g_names u) = (b9g_names S) ∧ (b9g_chosen u) = (b9g_chosen S) ∧ (b9g_common u) = (b9g_common S) ∧ (b9g_beginning u) = (b9g_beginning S) ∧ (b9g_isLaid u) = (b9g_isLaid S) ∧ (b9g_nodeLevel u) = (b9g_nodeLevel S) ∧ (b9g_nodeLeaf u) = (b9g_nodeLeaf S) ∧ (b9g_nodeLeaves u) = (b9g_nodeLeaves S) ∧ (b9g_nodeMany u) = (b9g_nodeMany S) ∧ (b9g_levelMany u) = (b9g_levelMany S) ∧ (b9g_upper u) = (b9g_upper S) ∧ (b9g_upperNodes u) = (b9g_upperNodes S) ∧ (b9g_areNodesLaid u) = (b9g_areNodesLaid S) ∧ (b9g_lowKey u) = (b9g_lowKey S) ∧ (b9g_highKey u) = (b9g_highKey S) ∧ (b9g_lowLength u) = (b9g_lowLength S) ∧ (b9g_highLength u) = (b9g_highLength S) ∧ (b9g_fromKey u) = (b9g_fromKey S) ∧ (b9g_toKey u) = (b9g_toKey S) ∧ (b9g_fromLength u) = (b9g_fromLength S) ∧ (b9g_toLength u) = (b9g_toLength S) ∧ (b9g_ones u) = (b9g_ones S) ∧ (b9g_oneMany u) = (b9g_oneMany S) ∧ (b9g_rowLong u) = (b9g_rowLong S) ∧ (b9g_laidFor u) = (b9g_laidFor S) ∧ (b9g_signs u) = (b9g_signs S) ∧ (b9g_signMany u) = (b9g_signMany S) ∧ (b9g_hasImage u) = (b9g_hasImage S) ∧ (b9g_images u) = (b9g_images S) ∧ (b9g_keyImages u) = (b9g_keyImages S) ∧ (b9g_lengthImages u) = (b9g_lengthImages S)
theorem sf_X9_laysItems {S : bT9} (hJ : J9 S) {Q : (bT9) → Prop} (hp0 : TR S 8 0) (hq : ∀ u : bT9, (J9 u) → F_X9_laysItems S u → (∀ k : Nat, R9 S → N9 S → k ≤ 8 → (b9g_upper S).toInt = (k : Int) → (b9g_upperNodes S).toInt = NB (n9 S) (C9 S) (P9 S) (64 * k) → (b9g_itemMany u).toInt = EB (n9 S) (C9 S) (P9 S) 512 - EB (n9 S) (C9 S) (P9 S) (64 * k) ∧ IAR (n9 S) (C9 S) (L9 S) (P9 S) (fun j => b9g_keys S (64 + j)) (b9g_itemNode u) (b9g_itemByte u) (b9g_itemChild u) (64 * k) 512 ∧ PLR (n9 S) (C9 S) (b9g_placeOf u) (b9g_leafOfPlace u) 512) → Q u) : wp_X9_laysItems S Q := by
  by_cases hyp : ∃ k : Nat, R9 S ∧ N9 S ∧ k ≤ 8 ∧ (b9g_upper S).toInt = (k : Int) ∧ (b9g_upperNodes S).toInt = NB (n9 S) (C9 S) (P9 S) (64 * k)
  case neg =>
    have hN := J9g_ND hJ
    have jm := J9g_nodeMany hJ
    unfold wp_X9_laysItems
    intro S3 e3 S4 e4
    have hJ4 : J9 S4 := by rw [e4, e3]; exact J9s_places (J9s_itemMany hJ ⟨by decide, by decide⟩) ⟨by decide, by decide⟩
    have hF4 : F_X9_laysItems S S4 := by rw [e4, e3]; exact ⟨rfl, rfl, rfl, rfl, rfl, rfl, rfl, rfl, rfl, rfl, rfl, rfl, rfl, rfl, rfl, rfl, rfl, rfl, rfl, rfl, rfl, rfl, rfl, rfl, rfl, rfl, rfl, rfl, rfl, rfl, rfl, rfl, rfl, rfl, rfl, rfl, rfl, rfl, rfl⟩
    have hi4 : (b9g_itemMany S4).toInt = 0 := by rw [e4, e3]; rfl
    have hp4 : (b9g_places S4).toInt = 0 := by rw [e4]; rfl
    unfold wp_X9_laysItems_12
    refine ⟨fun n x1 V => 0 ≤ x1.toInt ∧ J9 V ∧ F_X9_laysItems S V ∧ (x1.toInt < (b9g_nodeMany S).toInt → (b9g_itemMany V).toInt ≤ 64 * (b9g_nodeLevel S x1.toNatClampNeg).toInt + (b9g_nodeLeaf S x1.toNatClampNeg).toInt) ∧ (∃ T : Nat → Bool, (∀ i : Nat, T i = true → ∃ y : Nat, y < x1.toNatClampNeg ∧ PLS S y i) ∧ (b9g_places V).toInt = cntB T 64) ∧ n = ((b9g_nodeMany S).toInt + 1 - x1.toInt).toNat, ⟨_, by decide, hJ4, hF4, ?_, ⟨fun _ => false, fun i h => absurd h Bool.false_ne_true, by rw [fzero (fun _ => rfl), hp4]; rfl⟩, rfl⟩, ?_⟩
    · intro h0
      have := (hN 0 (by rw [pl_0] at h0; omega)).1
      show (b9g_itemMany S4).toInt ≤ 64 * (b9g_nodeLevel S 0).toInt + (b9g_nodeLeaf S 0).toInt
      omega
    rintro n x1 V ⟨h0, hJV, hF, hi, hT, hn⟩
    have eL : b9g_nodeLevel V = b9g_nodeLevel S := hF.2.2.2.2.2.2.2.2.2.2.2.2.2.1
    have eF : b9g_nodeLeaf V = b9g_nodeLeaf S := hF.2.2.2.2.2.2.2.2.2.2.2.2.2.2.1
    have eS : b9g_nodeLeaves V = b9g_nodeLeaves S := hF.2.2.2.2.2.2.2.2.2.2.2.2.2.2.2.1
    have eM : b9g_nodeMany V = b9g_nodeMany S := hF.2.2.2.2.2.2.2.2.2.2.2.2.2.2.2.2.1
    have eB : b9g_beginning V = b9g_beginning S := hF.2.2.2.2.2.2.2.2.2.2.2.1
    have eK : b9g_keys V = b9g_keys S := hF.2.2.1
    have eN : b9g_now V = b9g_now S := hF.2.1
    have hTRV : TR V 8 0 := by
      unfold TR
      rw [eL, eF, eS, eM, eB, eK, eN, show b9g_isLaid V = b9g_isLaid S from hF.2.2.2.2.2.2.2.2.2.2.2.2.1, show b9g_common V = b9g_common S from hF.2.2.2.2.2.2.2.2.2.2.1, show b9g_lengths V = b9g_lengths S from hF.2.2.2.1]
      exact hp0
    have ePL : ∀ y i : Nat, PLS V y i = PLS S y i := by
      intro y i
      unfold PLS
      rw [eL, eF, eS, eM, eB]
    unfold wp_X9_laysItems_12b
    refine ⟨fun c => hq V hJV hF (fun k a b c d f => absurd ⟨k, a, b, c, d, f⟩ hyp), fun c => ?_⟩
    simp (disch := first | ((try simp (disch := first | ((try simp only [pn]) <;> omega) | fail) only [pn, pq]) <;> omega) | fail) only [pn, pq] at c
    have hx : x1.toInt < (b9g_nodeMany S).toInt := by rw [eM] at c; omega
    have e1 := pt_clamp h0
    have e2 : (x1 + 1).toInt = x1.toInt + 1 := by rw [pt_add (by rw [pl_1]; omega) (by rw [pl_1]; omega), pl_1]
    have e3 := pt_clamp (i := x1 + 1) (by omega)
    have e4 : (x1 + 1).toNatClampNeg = x1.toNatClampNeg + 1 := by omega
    refine sf_X9_laysNode hJV h0 (by rw [eM]; exact hx) hTRV (by rw [eL, eF]; exact hi hx) ?_ (fun u2 hJu hf r1 r2 => ?_)
    · obtain ⟨T, ta, tb⟩ := hT
      refine ⟨T, fun i hi2 => ?_, tb⟩
      obtain ⟨y, y1, y2⟩ := ta i hi2
      exact ⟨y, y1, by rw [ePL]; exact y2⟩
    · rw [eS] at r1
      refine ⟨_, ?_, by omega, hJu, ⟨(hf.1).trans (hF.1), (hf.2.1).trans (hF.2.1), (hf.2.2.1).trans (hF.2.2.1), (hf.2.2.2.1).trans (hF.2.2.2.1), (hf.2.2.2.2.1).trans (hF.2.2.2.2.1), (hf.2.2.2.2.2.1).trans (hF.2.2.2.2.2.1), (hf.2.2.2.2.2.2.1).trans (hF.2.2.2.2.2.2.1), (hf.2.2.2.2.2.2.2.1).trans (hF.2.2.2.2.2.2.2.1), (hf.2.2.2.2.2.2.2.2.1).trans (hF.2.2.2.2.2.2.2.2.1), (hf.2.2.2.2.2.2.2.2.2.1).trans (hF.2.2.2.2.2.2.2.2.2.1), (hf.2.2.2.2.2.2.2.2.2.2.1).trans (hF.2.2.2.2.2.2.2.2.2.2.1), (hf.2.2.2.2.2.2.2.2.2.2.2.1).trans (hF.2.2.2.2.2.2.2.2.2.2.2.1), (hf.2.2.2.2.2.2.2.2.2.2.2.2.1).trans (hF.2.2.2.2.2.2.2.2.2.2.2.2.1), (hf.2.2.2.2.2.2.2.2.2.2.2.2.2.1).trans (hF.2.2.2.2.2.2.2.2.2.2.2.2.2.1), (hf.2.2.2.2.2.2.2.2.2.2.2.2.2.2.1).trans (hF.2.2.2.2.2.2.2.2.2.2.2.2.2.2.1), (hf.2.2.2.2.2.2.2.2.2.2.2.2.2.2.2.1).trans (hF.2.2.2.2.2.2.2.2.2.2.2.2.2.2.2.1), (hf.2.2.2.2.2.2.2.2.2.2.2.2.2.2.2.2.1).trans (hF.2.2.2.2.2.2.2.2.2.2.2.2.2.2.2.2.1), (hf.2.2.2.2.2.2.2.2.2.2.2.2.2.2.2.2.2.1).trans (hF.2.2.2.2.2.2.2.2.2.2.2.2.2.2.2.2.2.1), (hf.2.2.2.2.2.2.2.2.2.2.2.2.2.2.2.2.2.2.1).trans (hF.2.2.2.2.2.2.2.2.2.2.2.2.2.2.2.2.2.2.1), (hf.2.2.2.2.2.2.2.2.2.2.2.2.2.2.2.2.2.2.2.1).trans (hF.2.2.2.2.2.2.2.2.2.2.2.2.2.2.2.2.2.2.2.1), (hf.2.2.2.2.2.2.2.2.2.2.2.2.2.2.2.2.2.2.2.2.1).trans (hF.2.2.2.2.2.2.2.2.2.2.2.2.2.2.2.2.2.2.2.2.1), (hf.2.2.2.2.2.2.2.2.2.2.2.2.2.2.2.2.2.2.2.2.2.1).trans (hF.2.2.2.2.2.2.2.2.2.2.2.2.2.2.2.2.2.2.2.2.2.1), (hf.2.2.2.2.2.2.2.2.2.2.2.2.2.2.2.2.2.2.2.2.2.2.1).trans (hF.2.2.2.2.2.2.2.2.2.2.2.2.2.2.2.2.2.2.2.2.2.2.1), (hf.2.2.2.2.2.2.2.2.2.2.2.2.2.2.2.2.2.2.2.2.2.2.2.1).trans (hF.2.2.2.2.2.2.2.2.2.2.2.2.2.2.2.2.2.2.2.2.2.2.2.1), (hf.2.2.2.2.2.2.2.2.2.2.2.2.2.2.2.2.2.2.2.2.2.2.2.2.1).trans (hF.2.2.2.2.2.2.2.2.2.2.2.2.2.2.2.2.2.2.2.2.2.2.2.2.1), (hf.2.2.2.2.2.2.2.2.2.2.2.2.2.2.2.2.2.2.2.2.2.2.2.2.2.1).trans (hF.2.2.2.2.2.2.2.2.2.2.2.2.2.2.2.2.2.2.2.2.2.2.2.2.2.1), (hf.2.2.2.2.2.2.2.2.2.2.2.2.2.2.2.2.2.2.2.2.2.2.2.2.2.2.1).trans (hF.2.2.2.2.2.2.2.2.2.2.2.2.2.2.2.2.2.2.2.2.2.2.2.2.2.2.1), (hf.2.2.2.2.2.2.2.2.2.2.2.2.2.2.2.2.2.2.2.2.2.2.2.2.2.2.2.1).trans (hF.2.2.2.2.2.2.2.2.2.2.2.2.2.2.2.2.2.2.2.2.2.2.2.2.2.2.2.1), (hf.2.2.2.2.2.2.2.2.2.2.2.2.2.2.2.2.2.2.2.2.2.2.2.2.2.2.2.2.1).trans (hF.2.2.2.2.2.2.2.2.2.2.2.2.2.2.2.2.2.2.2.2.2.2.2.2.2.2.2.2.1), (hf.2.2.2.2.2.2.2.2.2.2.2.2.2.2.2.2.2.2.2.2.2.2.2.2.2.2.2.2.2.1).trans (hF.2.2.2.2.2.2.2.2.2.2.2.2.2.2.2.2.2.2.2.2.2.2.2.2.2.2.2.2.2.1), (hf.2.2.2.2.2.2.2.2.2.2.2.2.2.2.2.2.2.2.2.2.2.2.2.2.2.2.2.2.2.2.1).trans (hF.2.2.2.2.2.2.2.2.2.2.2.2.2.2.2.2.2.2.2.2.2.2.2.2.2.2.2.2.2.2.1), (hf.2.2.2.2.2.2.2.2.2.2.2.2.2.2.2.2.2.2.2.2.2.2.2.2.2.2.2.2.2.2.2.1).trans (hF.2.2.2.2.2.2.2.2.2.2.2.2.2.2.2.2.2.2.2.2.2.2.2.2.2.2.2.2.2.2.2.1), (hf.2.2.2.2.2.2.2.2.2.2.2.2.2.2.2.2.2.2.2.2.2.2.2.2.2.2.2.2.2.2.2.2.1).trans (hF.2.2.2.2.2.2.2.2.2.2.2.2.2.2.2.2.2.2.2.2.2.2.2.2.2.2.2.2.2.2.2.2.1), (hf.2.2.2.2.2.2.2.2.2.2.2.2.2.2.2.2.2.2.2.2.2.2.2.2.2.2.2.2.2.2.2.2.2.1).trans (hF.2.2.2.2.2.2.2.2.2.2.2.2.2.2.2.2.2.2.2.2.2.2.2.2.2.2.2.2.2.2.2.2.2.1), (hf.2.2.2.2.2.2.2.2.2.2.2.2.2.2.2.2.2.2.2.2.2.2.2.2.2.2.2.2.2.2.2.2.2.2.1).trans (hF.2.2.2.2.2.2.2.2.2.2.2.2.2.2.2.2.2.2.2.2.2.2.2.2.2.2.2.2.2.2.2.2.2.2.1), (hf.2.2.2.2.2.2.2.2.2.2.2.2.2.2.2.2.2.2.2.2.2.2.2.2.2.2.2.2.2.2.2.2.2.2.2.1).trans (hF.2.2.2.2.2.2.2.2.2.2.2.2.2.2.2.2.2.2.2.2.2.2.2.2.2.2.2.2.2.2.2.2.2.2.2.1), (hf.2.2.2.2.2.2.2.2.2.2.2.2.2.2.2.2.2.2.2.2.2.2.2.2.2.2.2.2.2.2.2.2.2.2.2.2.1).trans (hF.2.2.2.2.2.2.2.2.2.2.2.2.2.2.2.2.2.2.2.2.2.2.2.2.2.2.2.2.2.2.2.2.2.2.2.2.1), (hf.2.2.2.2.2.2.2.2.2.2.2.2.2.2.2.2.2.2.2.2.2.2.2.2.2.2.2.2.2.2.2.2.2.2.2.2.2.1).trans (hF.2.2.2.2.2.2.2.2.2.2.2.2.2.2.2.2.2.2.2.2.2.2.2.2.2.2.2.2.2.2.2.2.2.2.2.2.2.1), (hf.2.2.2.2.2.2.2.2.2.2.2.2.2.2.2.2.2.2.2.2.2.2.2.2.2.2.2.2.2.2.2.2.2.2.2.2.2.2).trans (hF.2.2.2.2.2.2.2.2.2.2.2.2.2.2.2.2.2.2.2.2.2.2.2.2.2.2.2.2.2.2.2.2.2.2.2.2.2.2)⟩, ?_, ?_, rfl⟩
      · omega
      · intro h3
        have a := hi hx
        have b := (hN x1.toNatClampNeg (by omega)).2 (by omega)
        rw [e4]
        omega
      · obtain ⟨T, ta, tb⟩ := r2
        refine ⟨T, fun i hi2 => ?_, tb⟩
        obtain ⟨y, y1, y2⟩ := ta i hi2
        rw [ePL] at y2
        exact ⟨y, by omega, y2⟩
  case pos =>
    obtain ⟨u, h, hN, hu8, huu, hun⟩ := hyp
    have G := h.1
    have g64 := G.1
    have hm := hN.1
    have n5 := NB_le G (l := 7) (i := 64) (by omega) (by omega)
    have nb5 : NB (n9 S) (C9 S) (P9 S) (64 * 7 + 64) = NB (n9 S) (C9 S) (P9 S) 512 := rfl
    have eu := EB_le G (w := 64 * u) (by omega)
    obtain ⟨p0, q1, q2, q3, q4, q5, q6⟩ := NB_pos (n := (n9 S)) (C := (C9 S)) (P := (P9 S)) (b := 0) (x := 0) (by omega) rfl
    have z0E : (EB (n9 S) (C9 S) (P9 S) (p0)) = 0 := EB_gap g64 (l := 0) (e := 0) (by omega) (fun a b => ⟨a, b, Or.inl rfl⟩) (by omega) (fun w a b => q6 w (by omega) b)
    have z0L : LB (n9 S) (C9 S) p0 = 0 := (CTP_sub2 (P := IsE (n9 S) (C9 S) (P9 S)) (R := IsL (n9 S) (C9 S)) (a := p0) (b := 0) (fun v hv => IsL_E hv) (by show (EB (n9 S) (C9 S) (P9 S) (p0)) = (EB (n9 S) (C9 S) (P9 S) (0)); rw [z0E]; rfl)).trans rfl
    unfold wp_X9_laysItems
    intro S3 e3 S4 e4
    have hJ4 : J9 S4 := by rw [e4, e3]; exact J9s_places (J9s_itemMany hJ ⟨by decide, by decide⟩) ⟨by decide, by decide⟩
    have hF4 : F_X9_laysItems S S4 := by rw [e4, e3]; exact ⟨rfl, rfl, rfl, rfl, rfl, rfl, rfl, rfl, rfl, rfl, rfl, rfl, rfl, rfl, rfl, rfl, rfl, rfl, rfl, rfl, rfl, rfl, rfl, rfl, rfl, rfl, rfl, rfl, rfl, rfl, rfl, rfl, rfl, rfl, rfl, rfl, rfl, rfl, rfl⟩
    have hi4 : (b9g_itemMany S4).toInt = 0 := by rw [e4, e3]; rfl
    have hp4 : (b9g_places S4).toInt = 0 := by rw [e4]; rfl
    unfold wp_X9_laysItems_12
    refine ⟨fun k x1 V => ∃ x p : Nat, x1.toInt = (x : Int) ∧ J9 V ∧ F_X9_laysItems S V ∧ p ≤ 512 ∧ (x : Int) = NB (n9 S) (C9 S) (P9 S) p ∧ ((x : Int) < NB (n9 S) (C9 S) (P9 S) 512 → IsN (n9 S) (C9 S) (P9 S) p) ∧ (¬ (x : Int) < NB (n9 S) (C9 S) (P9 S) 512 → p = 512) ∧ ((b9g_itemMany V).toInt = max 0 ((EB (n9 S) (C9 S) (P9 S) (p)) - (EB (n9 S) (C9 S) (P9 S) (64 * u))) ∧ IAR (n9 S) (C9 S) (L9 S) (P9 S) (fun j => b9g_keys S (64 + j)) (b9g_itemNode V) (b9g_itemByte V) (b9g_itemChild V) (64 * u) (p)) ∧ ((b9g_places V).toInt = LB (n9 S) (C9 S) (p) ∧ PLR (n9 S) (C9 S) (b9g_placeOf V) (b9g_leafOfPlace V) (p)) ∧ k = 600 - x, ⟨_, 0, p0, rfl, hJ4, hF4, q2, q3, fun t => (q4 t).2, q5, ⟨by rw [hi4, z0E]; omega, fun w y w0 w1 w2 w3 => ?_⟩, ⟨by rw [hp4, z0L], fun w z w1 w2 w3 => ?_⟩, rfl⟩, ?_⟩
    · have a : (EB (n9 S) (C9 S) (P9 S) (w)) < (EB (n9 S) (C9 S) (P9 S) (p0)) := CTP_lt w1 w2
      have b := (EB_le G (w := w) (by omega)).1
      omega
    · have a : LB (n9 S) (C9 S) w < LB (n9 S) (C9 S) p0 := CTP_lt w1 w2
      have b : 0 ≤ LB (n9 S) (C9 S) w := (CTP_rng _ _).1
      omega
    rintro k x1 V ⟨x, p, e1, hJV, hF, p5, hx, pN, pE, hI, hZ, hk⟩
    have mx := NB_mono (n := (n9 S)) (C := (C9 S)) (P := (P9 S)) p5
    have eM : b9g_nodeMany V = b9g_nodeMany S := hF.2.2.2.2.2.2.2.2.2.2.2.2.2.2.2.2.1
    have sm : SM9 V S := ⟨hF.2.2.1, hF.2.2.2.1, hF.2.1⟩
    obtain ⟨s1, s2, s3, s4⟩ := SM9_n sm
    have rV : R9 V := R9_same h sm (hF.2.2.2.2.2.2.2.2.2.2.2.1) (hF.2.2.2.2.2.2.2.2.2.2.1)
    have nV : N9 V := N9_same hN sm (hF.2.2.2.2.2.2.2.2.2.2.2.2.2.1) (hF.2.2.2.2.2.2.2.2.2.2.2.2.2.2.1) (hF.2.2.2.2.2.2.2.2.2.2.2.2.2.2.2.1) (hF.2.2.2.2.2.2.2.2.2.2.2.2.2.2.2.2.1)
    unfold wp_X9_laysItems_12b
    rw [eM]
    refine ⟨fun c => ?_, fun c => ?_⟩
    · simp only [pn] at c
      have pp := pE (by omega)
      subst pp
      have mn := EB_mono (n := (n9 S)) (C := (C9 S)) (P := (P9 S)) (show 64 * u ≤ 512 by omega)
      refine hq V hJV hF (fun k' _ _ _ hk' _ => ?_)
      have kk : k' = u := by omega
      rw [kk]
      exact ⟨by rw [hI.1]; omega, hI.2, hZ.2⟩
    simp only [pn] at c
    have pI := pN (by omega)
    obtain ⟨l, s, e, ha⟩ := AT9_of h hN (x := x) (by omega)
    have ha' := ha
    obtain ⟨x5, l7, hs, hg, hx2, f1, f2, f3⟩ := ha'
    have sn := hs.1
    have gn := hg.2.1
    have ep : p = 64 * l + s := CTP_inj (P := IsN (n9 S) (C9 S) (P9 S)) pI ((IsN_at (by omega)).mpr hs) (by show NB _ _ _ p = NB _ _ _ (64 * l + s); omega)
    have ng := NB_grp g64 hs hg
    obtain ⟨p', r1, r2, r3, r4, r5, r6⟩ := NB_pos (n := (n9 S)) (C := (C9 S)) (P := (P9 S)) (b := 64 * l + e) (x := x + 1) (by omega) (by omega)
    have eg := EB_gap g64 (l := l) (e := e) (by omega) (GRQ_cl hg) r1 r6
    have noE : ∀ w, 64 * l + e ≤ w → w < p' → ¬ IsE (n9 S) (C9 S) (P9 S) w := by
      intro w w1 w2 w3
      have lt : (EB (n9 S) (C9 S) (P9 S) (w)) < (EB (n9 S) (C9 S) (P9 S) (p')) := CTP_lt w2 w3
      have mn := EB_mono (n := (n9 S)) (C := (C9 S)) (P := (P9 S)) w1
      omega
    have lg : LB (n9 S) (C9 S) p' = LB (n9 S) (C9 S) (64 * l + e) := CTP_sub2 (P := IsE (n9 S) (C9 S) (P9 S)) (R := IsL (n9 S) (C9 S)) (fun v hv => IsL_E hv) (by show (EB (n9 S) (C9 S) (P9 S) (p')) = (EB (n9 S) (C9 S) (P9 S) (64 * l + e)); exact eg)
    rw [ep] at hI hZ
    have key : ∀ W : bT9, J9 W → F_X9_laysNode V W → ((b9g_itemMany W).toInt = max 0 ((EB (n9 S) (C9 S) (P9 S) (64 * l + e)) - (EB (n9 S) (C9 S) (P9 S) (64 * u))) ∧ IAR (n9 S) (C9 S) (L9 S) (P9 S) (fun j => b9g_keys S (64 + j)) (b9g_itemNode W) (b9g_itemByte W) (b9g_itemChild W) (64 * u) (64 * l + e)) → ((b9g_places W).toInt = LB (n9 S) (C9 S) (64 * l + e) ∧ PLR (n9 S) (C9 S) (b9g_placeOf W) (b9g_leafOfPlace W) (64 * l + e)) → ∃ n2 : Nat, n2 < k ∧ ∃ x' p'' : Nat, (x1 + 1).toInt = (x' : Int) ∧ J9 W ∧ F_X9_laysItems S W ∧ p'' ≤ 512 ∧ (x' : Int) = NB (n9 S) (C9 S) (P9 S) p'' ∧ ((x' : Int) < NB (n9 S) (C9 S) (P9 S) 512 → IsN (n9 S) (C9 S) (P9 S) p'') ∧ (¬ (x' : Int) < NB (n9 S) (C9 S) (P9 S) 512 → p'' = 512) ∧ ((b9g_itemMany W).toInt = max 0 ((EB (n9 S) (C9 S) (P9 S) (p'')) - (EB (n9 S) (C9 S) (P9 S) (64 * u))) ∧ IAR (n9 S) (C9 S) (L9 S) (P9 S) (fun j => b9g_keys S (64 + j)) (b9g_itemNode W) (b9g_itemByte W) (b9g_itemChild W) (64 * u) (p'')) ∧ ((b9g_places W).toInt = LB (n9 S) (C9 S) (p'') ∧ PLR (n9 S) (C9 S) (b9g_placeOf W) (b9g_leafOfPlace W) (p'')) ∧ n2 = 600 - x' := by
      intro W hJW hfW hIW hZW
      refine ⟨600 - (x + 1), by omega, x + 1, p', by rw [pt_add (by rw [pl_1]; omega) (by rw [pl_1]; omega), pl_1, e1]; omega, hJW, ⟨(hfW.1).trans (hF.1), (hfW.2.1).trans (hF.2.1), (hfW.2.2.1).trans (hF.2.2.1), (hfW.2.2.2.1).trans (hF.2.2.2.1), (hfW.2.2.2.2.1).trans (hF.2.2.2.2.1), (hfW.2.2.2.2.2.1).trans (hF.2.2.2.2.2.1), (hfW.2.2.2.2.2.2.1).trans (hF.2.2.2.2.2.2.1), (hfW.2.2.2.2.2.2.2.1).trans (hF.2.2.2.2.2.2.2.1), (hfW.2.2.2.2.2.2.2.2.1).trans (hF.2.2.2.2.2.2.2.2.1), (hfW.2.2.2.2.2.2.2.2.2.1).trans (hF.2.2.2.2.2.2.2.2.2.1), (hfW.2.2.2.2.2.2.2.2.2.2.1).trans (hF.2.2.2.2.2.2.2.2.2.2.1), (hfW.2.2.2.2.2.2.2.2.2.2.2.1).trans (hF.2.2.2.2.2.2.2.2.2.2.2.1), (hfW.2.2.2.2.2.2.2.2.2.2.2.2.1).trans (hF.2.2.2.2.2.2.2.2.2.2.2.2.1), (hfW.2.2.2.2.2.2.2.2.2.2.2.2.2.1).trans (hF.2.2.2.2.2.2.2.2.2.2.2.2.2.1), (hfW.2.2.2.2.2.2.2.2.2.2.2.2.2.2.1).trans (hF.2.2.2.2.2.2.2.2.2.2.2.2.2.2.1), (hfW.2.2.2.2.2.2.2.2.2.2.2.2.2.2.2.1).trans (hF.2.2.2.2.2.2.2.2.2.2.2.2.2.2.2.1), (hfW.2.2.2.2.2.2.2.2.2.2.2.2.2.2.2.2.1).trans (hF.2.2.2.2.2.2.2.2.2.2.2.2.2.2.2.2.1), (hfW.2.2.2.2.2.2.2.2.2.2.2.2.2.2.2.2.2.1).trans (hF.2.2.2.2.2.2.2.2.2.2.2.2.2.2.2.2.2.1), (hfW.2.2.2.2.2.2.2.2.2.2.2.2.2.2.2.2.2.2.1).trans (hF.2.2.2.2.2.2.2.2.2.2.2.2.2.2.2.2.2.2.1), (hfW.2.2.2.2.2.2.2.2.2.2.2.2.2.2.2.2.2.2.2.1).trans (hF.2.2.2.2.2.2.2.2.2.2.2.2.2.2.2.2.2.2.2.1), (hfW.2.2.2.2.2.2.2.2.2.2.2.2.2.2.2.2.2.2.2.2.1).trans (hF.2.2.2.2.2.2.2.2.2.2.2.2.2.2.2.2.2.2.2.2.1), (hfW.2.2.2.2.2.2.2.2.2.2.2.2.2.2.2.2.2.2.2.2.2.1).trans (hF.2.2.2.2.2.2.2.2.2.2.2.2.2.2.2.2.2.2.2.2.2.1), (hfW.2.2.2.2.2.2.2.2.2.2.2.2.2.2.2.2.2.2.2.2.2.2.1).trans (hF.2.2.2.2.2.2.2.2.2.2.2.2.2.2.2.2.2.2.2.2.2.2.1), (hfW.2.2.2.2.2.2.2.2.2.2.2.2.2.2.2.2.2.2.2.2.2.2.2.1).trans (hF.2.2.2.2.2.2.2.2.2.2.2.2.2.2.2.2.2.2.2.2.2.2.2.1), (hfW.2.2.2.2.2.2.2.2.2.2.2.2.2.2.2.2.2.2.2.2.2.2.2.2.1).trans (hF.2.2.2.2.2.2.2.2.2.2.2.2.2.2.2.2.2.2.2.2.2.2.2.2.1), (hfW.2.2.2.2.2.2.2.2.2.2.2.2.2.2.2.2.2.2.2.2.2.2.2.2.2.1).trans (hF.2.2.2.2.2.2.2.2.2.2.2.2.2.2.2.2.2.2.2.2.2.2.2.2.2.1), (hfW.2.2.2.2.2.2.2.2.2.2.2.2.2.2.2.2.2.2.2.2.2.2.2.2.2.2.1).trans (hF.2.2.2.2.2.2.2.2.2.2.2.2.2.2.2.2.2.2.2.2.2.2.2.2.2.2.1), (hfW.2.2.2.2.2.2.2.2.2.2.2.2.2.2.2.2.2.2.2.2.2.2.2.2.2.2.2.1).trans (hF.2.2.2.2.2.2.2.2.2.2.2.2.2.2.2.2.2.2.2.2.2.2.2.2.2.2.2.1), (hfW.2.2.2.2.2.2.2.2.2.2.2.2.2.2.2.2.2.2.2.2.2.2.2.2.2.2.2.2.1).trans (hF.2.2.2.2.2.2.2.2.2.2.2.2.2.2.2.2.2.2.2.2.2.2.2.2.2.2.2.2.1), (hfW.2.2.2.2.2.2.2.2.2.2.2.2.2.2.2.2.2.2.2.2.2.2.2.2.2.2.2.2.2.1).trans (hF.2.2.2.2.2.2.2.2.2.2.2.2.2.2.2.2.2.2.2.2.2.2.2.2.2.2.2.2.2.1), (hfW.2.2.2.2.2.2.2.2.2.2.2.2.2.2.2.2.2.2.2.2.2.2.2.2.2.2.2.2.2.2.1).trans (hF.2.2.2.2.2.2.2.2.2.2.2.2.2.2.2.2.2.2.2.2.2.2.2.2.2.2.2.2.2.2.1), (hfW.2.2.2.2.2.2.2.2.2.2.2.2.2.2.2.2.2.2.2.2.2.2.2.2.2.2.2.2.2.2.2.1).trans (hF.2.2.2.2.2.2.2.2.2.2.2.2.2.2.2.2.2.2.2.2.2.2.2.2.2.2.2.2.2.2.2.1), (hfW.2.2.2.2.2.2.2.2.2.2.2.2.2.2.2.2.2.2.2.2.2.2.2.2.2.2.2.2.2.2.2.2.1).trans (hF.2.2.2.2.2.2.2.2.2.2.2.2.2.2.2.2.2.2.2.2.2.2.2.2.2.2.2.2.2.2.2.2.1), (hfW.2.2.2.2.2.2.2.2.2.2.2.2.2.2.2.2.2.2.2.2.2.2.2.2.2.2.2.2.2.2.2.2.2.1).trans (hF.2.2.2.2.2.2.2.2.2.2.2.2.2.2.2.2.2.2.2.2.2.2.2.2.2.2.2.2.2.2.2.2.2.1), (hfW.2.2.2.2.2.2.2.2.2.2.2.2.2.2.2.2.2.2.2.2.2.2.2.2.2.2.2.2.2.2.2.2.2.2.1).trans (hF.2.2.2.2.2.2.2.2.2.2.2.2.2.2.2.2.2.2.2.2.2.2.2.2.2.2.2.2.2.2.2.2.2.2.1), (hfW.2.2.2.2.2.2.2.2.2.2.2.2.2.2.2.2.2.2.2.2.2.2.2.2.2.2.2.2.2.2.2.2.2.2.2.1).trans (hF.2.2.2.2.2.2.2.2.2.2.2.2.2.2.2.2.2.2.2.2.2.2.2.2.2.2.2.2.2.2.2.2.2.2.2.1), (hfW.2.2.2.2.2.2.2.2.2.2.2.2.2.2.2.2.2.2.2.2.2.2.2.2.2.2.2.2.2.2.2.2.2.2.2.2.1).trans (hF.2.2.2.2.2.2.2.2.2.2.2.2.2.2.2.2.2.2.2.2.2.2.2.2.2.2.2.2.2.2.2.2.2.2.2.2.1), (hfW.2.2.2.2.2.2.2.2.2.2.2.2.2.2.2.2.2.2.2.2.2.2.2.2.2.2.2.2.2.2.2.2.2.2.2.2.2.1).trans (hF.2.2.2.2.2.2.2.2.2.2.2.2.2.2.2.2.2.2.2.2.2.2.2.2.2.2.2.2.2.2.2.2.2.2.2.2.2.1), (hfW.2.2.2.2.2.2.2.2.2.2.2.2.2.2.2.2.2.2.2.2.2.2.2.2.2.2.2.2.2.2.2.2.2.2.2.2.2.2).trans (hF.2.2.2.2.2.2.2.2.2.2.2.2.2.2.2.2.2.2.2.2.2.2.2.2.2.2.2.2.2.2.2.2.2.2.2.2.2.2)⟩, r2, r3, fun t => (r4 t).2, r5, ⟨by rw [eg]; exact hIW.1, IAR_skip hIW.2 (fun w _ a b => noE w a b)⟩, ⟨by rw [lg]; exact hZW.1, PLR_skip hZW.2 (fun w a b y => noE w a b (IsL_E y))⟩, rfl⟩
    refine sg_X9_laysNode (x := x) (l := l) (s := s) (e := e) (u := u) hJV rV nV (AT9_same ha sm (hF.2.2.2.2.2.2.2.2.2.2.2.2.2.1) (hF.2.2.2.2.2.2.2.2.2.2.2.2.2.2.1) (hF.2.2.2.2.2.2.2.2.2.2.2.2.2.2.2.1)) e1 hu8 ?_ ?_ ?_ (fun W hJW hfW hIW hZW => key W hJW hfW ?_ ?_)
    · rw [s1, s2, s4, show b9g_upperNodes V = b9g_upperNodes S from hF.2.2.2.2.2.2.2.2.2.2.2.2.2.2.2.2.2.2.2.1]
      exact hun
    · rw [s1, s2, s3, s4, sm.1]
      exact hI
    · rw [s1, s2]
      exact hZ
    · rw [s1, s2, s3, s4, sm.1] at hIW
      exact hIW
    · rw [s1, s2] at hZW
      exact hZW
set_option maxRecDepth 20000 in
set_option maxHeartbeats 8000000 in
theorem sf_X9_bitsAbove {S : bT9} (hJ : K9 S) {a1 : Int32} {Q : Int32 → Prop} (hq : ∀ r : Int32, (0 ≤ r.toInt) → (r.toInt ≤ 262656) → (a1.toInt ≤ 0 → r.toInt = 0) → Q r) : wp_X9_bitsAbove S a1 Q := by
  unfold wp_X9_bitsAbove
  have jf1 := K9g_nodeMany hJ
  have jf2 : (-4 ≤ ((b9g_now S) 1).toInt ∧ ((b9g_now S) 1).toInt ≤ 4) ∧ (-3 ≤ ((b9g_now S) 4).toInt ∧ ((b9g_now S) 4).toInt ≤ 252) ∧ (0 ≤ ((b9g_now S) 8).toInt ∧ ((b9g_now S) 8).toInt ≤ 64) ∧ (0 ≤ ((b9g_now S) 9).toInt ∧ ((b9g_now S) 9).toInt ≤ 64) ∧ (0 ≤ ((b9g_now S) 10).toInt ∧ ((b9g_now S) 10).toInt ≤ 16) ∧ (0 ≤ ((b9g_now S) 12).toInt ∧ ((b9g_now S) 12).toInt ≤ 8) := K9g_now hJ
  have rga1 := pt_rg a1
  refine ⟨fun n x1q1 x2q1 x3q1 => (x1q1 = a1) ∧ (0 ≤ (x3q1).toInt) ∧ ((x3q1).toInt ≤ 512) ∧ (0 ≤ (x2q1).toInt) ∧ ((x2q1).toInt ≤ 513 * (x3q1).toInt) ∧ ((x1q1).toInt ≤ 0 → (x2q1).toInt = 0) ∧ n = ((b9g_nodeMany S).toInt + 1 - (x3q1).toInt).toNat, ⟨_, rfl, (by (try simp (disch := first | ((try simp (disch := first | ((try simp only [pn]) <;> omega) | fail) only [pn, pq]) <;> omega) | fail) only [pn, pq]) <;> (intros; (try simp (disch := first | ((try simp (disch := first | ((try simp only [pn]) <;> omega) | fail) only [pn, pq]) <;> omega) | fail) only [pn, pq]) <;> omega)), (by (try simp (disch := first | ((try simp (disch := first | ((try simp only [pn]) <;> omega) | fail) only [pn, pq]) <;> omega) | fail) only [pn, pq]) <;> (intros; (try simp (disch := first | ((try simp (disch := first | ((try simp only [pn]) <;> omega) | fail) only [pn, pq]) <;> omega) | fail) only [pn, pq]) <;> omega)), (by (try simp (disch := first | ((try simp (disch := first | ((try simp only [pn]) <;> omega) | fail) only [pn, pq]) <;> omega) | fail) only [pn, pq]) <;> (intros; (try simp (disch := first | ((try simp (disch := first | ((try simp only [pn]) <;> omega) | fail) only [pn, pq]) <;> omega) | fail) only [pn, pq]) <;> omega)), (by (try simp (disch := first | ((try simp (disch := first | ((try simp only [pn]) <;> omega) | fail) only [pn, pq]) <;> omega) | fail) only [pn, pq]) <;> (intros; (try simp (disch := first | ((try simp (disch := first | ((try simp only [pn]) <;> omega) | fail) only [pn, pq]) <;> omega) | fail) only [pn, pq]) <;> omega)), (by (try simp (disch := first | ((try simp (disch := first | ((try simp only [pn]) <;> omega) | fail) only [pn, pq]) <;> omega) | fail) only [pn, pq]) <;> (intros; (try simp (disch := first | ((try simp (disch := first | ((try simp only [pn]) <;> omega) | fail) only [pn, pq]) <;> omega) | fail) only [pn, pq]) <;> omega)), rfl⟩, ?_⟩
  rintro n2 x1q1 x2q1 x3q1 ⟨hkq1_0, hiq1_0, hiq1_1, hiq1_2, hiq1_3, hiq1_4, hn2⟩
  subst hkq1_0
  have rgx1q1 := pt_rg x1q1
  have rgx2q1 := pt_rg x2q1
  have rgx3q1 := pt_rg x3q1
  unfold wp_X9_bitsAbove_4b
  refine ⟨fun c3 => ?_, fun c3 => ?_⟩
  · try simp (disch := first | ((try simp (disch := first | ((try simp only [pn]) <;> omega) | fail) only [pn, pq]) <;> omega) | fail) only [pn, pq] at c3
    exact hq _ (by (try simp (disch := first | ((try simp (disch := first | ((try simp only [pn]) <;> omega) | fail) only [pn, pq]) <;> omega) | fail) only [pn, pq]) <;> (intros; (try simp (disch := first | ((try simp (disch := first | ((try simp only [pn]) <;> omega) | fail) only [pn, pq]) <;> omega) | fail) only [pn, pq]) <;> omega)) (by (try simp (disch := first | ((try simp (disch := first | ((try simp only [pn]) <;> omega) | fail) only [pn, pq]) <;> omega) | fail) only [pn, pq]) <;> (intros; (try simp (disch := first | ((try simp (disch := first | ((try simp only [pn]) <;> omega) | fail) only [pn, pq]) <;> omega) | fail) only [pn, pq]) <;> omega)) (by (try simp (disch := first | ((try simp (disch := first | ((try simp only [pn]) <;> omega) | fail) only [pn, pq]) <;> omega) | fail) only [pn, pq]) <;> (intros; (try simp (disch := first | ((try simp (disch := first | ((try simp only [pn]) <;> omega) | fail) only [pn, pq]) <;> omega) | fail) only [pn, pq]) <;> omega))
  · try simp (disch := first | ((try simp (disch := first | ((try simp only [pn]) <;> omega) | fail) only [pn, pq]) <;> omega) | fail) only [pn, pq] at c3
    refine ⟨pt_in (by (try simp (disch := first | ((try simp (disch := first | ((try simp only [pn]) <;> omega) | fail) only [pn, pq]) <;> omega) | fail) only [pn, pq]) <;> (intros; (try simp (disch := first | ((try simp (disch := first | ((try simp only [pn]) <;> omega) | fail) only [pn, pq]) <;> omega) | fail) only [pn, pq]) <;> omega)) (by (try simp (disch := first | ((try simp (disch := first | ((try simp only [pn]) <;> omega) | fail) only [pn, pq]) <;> omega) | fail) only [pn, pq]) <;> (intros; (try simp (disch := first | ((try simp (disch := first | ((try simp only [pn]) <;> omega) | fail) only [pn, pq]) <;> omega) | fail) only [pn, pq]) <;> omega)), ?_⟩
    have jr3 := ND_at (K9g_ND hJ) (x := x3q1) (by (try simp (disch := first | ((try simp (disch := first | ((try simp only [pn]) <;> omega) | fail) only [pn, pq]) <;> omega) | fail) only [pn, pq]) <;> (intros; (try simp (disch := first | ((try simp (disch := first | ((try simp only [pn]) <;> omega) | fail) only [pn, pq]) <;> omega) | fail) only [pn, pq]) <;> omega)) (by (try simp (disch := first | ((try simp (disch := first | ((try simp only [pn]) <;> omega) | fail) only [pn, pq]) <;> omega) | fail) only [pn, pq]) <;> (intros; (try simp (disch := first | ((try simp (disch := first | ((try simp only [pn]) <;> omega) | fail) only [pn, pq]) <;> omega) | fail) only [pn, pq]) <;> omega))
    try simp (disch := first | ((try simp (disch := first | ((try simp only [pn]) <;> omega) | fail) only [pn, pq]) <;> omega) | fail) only [pn, pq] at jr3
    refine ⟨fun c4 => ?_, fun c4 => ?_⟩
    · try simp (disch := first | ((try simp (disch := first | ((try simp only [pn]) <;> omega) | fail) only [pn, pq]) <;> omega) | fail) only [pn, pq] at c4
      unfold wp_X9_bitsAbove_28
      refine ⟨_, ?_, ?_, ?_, ?_, ?_, ?_, ?_, rfl⟩
      · (try simp (disch := first | ((try simp (disch := first | ((try simp only [pn]) <;> omega) | fail) only [pn, pq]) <;> omega) | fail) only [pn, pq]) <;> (intros; (try simp (disch := first | ((try simp (disch := first | ((try simp only [pn]) <;> omega) | fail) only [pn, pq]) <;> omega) | fail) only [pn, pq]) <;> omega)
      · first | rfl | assumption
      · (try simp (disch := first | ((try simp (disch := first | ((try simp only [pn]) <;> omega) | fail) only [pn, pq]) <;> omega) | fail) only [pn, pq]) <;> (intros; (try simp (disch := first | ((try simp (disch := first | ((try simp only [pn]) <;> omega) | fail) only [pn, pq]) <;> omega) | fail) only [pn, pq]) <;> omega)
      · (try simp (disch := first | ((try simp (disch := first | ((try simp only [pn]) <;> omega) | fail) only [pn, pq]) <;> omega) | fail) only [pn, pq]) <;> (intros; (try simp (disch := first | ((try simp (disch := first | ((try simp only [pn]) <;> omega) | fail) only [pn, pq]) <;> omega) | fail) only [pn, pq]) <;> omega)
      · (try simp (disch := first | ((try simp (disch := first | ((try simp only [pn]) <;> omega) | fail) only [pn, pq]) <;> omega) | fail) only [pn, pq]) <;> (intros; (try simp (disch := first | ((try simp (disch := first | ((try simp only [pn]) <;> omega) | fail) only [pn, pq]) <;> omega) | fail) only [pn, pq]) <;> omega)
      · (try simp (disch := first | ((try simp (disch := first | ((try simp only [pn]) <;> omega) | fail) only [pn, pq]) <;> omega) | fail) only [pn, pq]) <;> (intros; (try simp (disch := first | ((try simp (disch := first | ((try simp only [pn]) <;> omega) | fail) only [pn, pq]) <;> omega) | fail) only [pn, pq]) <;> omega)
      · (try simp (disch := first | ((try simp (disch := first | ((try simp only [pn]) <;> omega) | fail) only [pn, pq]) <;> omega) | fail) only [pn, pq]) <;> (intros; (try simp (disch := first | ((try simp (disch := first | ((try simp only [pn]) <;> omega) | fail) only [pn, pq]) <;> omega) | fail) only [pn, pq]) <;> omega)
    · try simp (disch := first | ((try simp (disch := first | ((try simp only [pn]) <;> omega) | fail) only [pn, pq]) <;> omega) | fail) only [pn, pq] at c4
      intro v5 ev5
      have nv5 := congrArg Int32.toInt ev5
      try simp (disch := first | ((try simp (disch := first | ((try simp only [pn]) <;> omega) | fail) only [pn, pq]) <;> omega) | fail) only [pn, pq] at nv5
      unfold wp_X9_bitsAbove_28
      refine ⟨_, ?_, ?_, ?_, ?_, ?_, ?_, ?_, rfl⟩
      · (try simp (disch := first | ((try simp (disch := first | ((try simp only [pn]) <;> omega) | fail) only [pn, pq]) <;> omega) | fail) only [pn, pq]) <;> (intros; (try simp (disch := first | ((try simp (disch := first | ((try simp only [pn]) <;> omega) | fail) only [pn, pq]) <;> omega) | fail) only [pn, pq]) <;> omega)
      · first | rfl | assumption
      · (try simp (disch := first | ((try simp (disch := first | ((try simp only [pn]) <;> omega) | fail) only [pn, pq]) <;> omega) | fail) only [pn, pq]) <;> (intros; (try simp (disch := first | ((try simp (disch := first | ((try simp only [pn]) <;> omega) | fail) only [pn, pq]) <;> omega) | fail) only [pn, pq]) <;> omega)
      · (try simp (disch := first | ((try simp (disch := first | ((try simp only [pn]) <;> omega) | fail) only [pn, pq]) <;> omega) | fail) only [pn, pq]) <;> (intros; (try simp (disch := first | ((try simp (disch := first | ((try simp only [pn]) <;> omega) | fail) only [pn, pq]) <;> omega) | fail) only [pn, pq]) <;> omega)
      · (try simp (disch := first | ((try simp (disch := first | ((try simp only [pn]) <;> omega) | fail) only [pn, pq]) <;> omega) | fail) only [pn, pq]) <;> (intros; (try simp (disch := first | ((try simp (disch := first | ((try simp only [pn]) <;> omega) | fail) only [pn, pq]) <;> omega) | fail) only [pn, pq]) <;> omega)
      · (try simp (disch := first | ((try simp (disch := first | ((try simp only [pn]) <;> omega) | fail) only [pn, pq]) <;> omega) | fail) only [pn, pq]) <;> (intros; (try simp (disch := first | ((try simp (disch := first | ((try simp only [pn]) <;> omega) | fail) only [pn, pq]) <;> omega) | fail) only [pn, pq]) <;> omega)
      · (try simp (disch := first | ((try simp (disch := first | ((try simp only [pn]) <;> omega) | fail) only [pn, pq]) <;> omega) | fail) only [pn, pq]) <;> (intros; (try simp (disch := first | ((try simp (disch := first | ((try simp only [pn]) <;> omega) | fail) only [pn, pq]) <;> omega) | fail) only [pn, pq]) <;> omega)
set_option maxRecDepth 20000 in
set_option maxHeartbeats 8000000 in
theorem sf_X9_branchMany {S : bT9} (hJ : K9 S) {a1 : Int32} {Q : Int32 → Prop} (hp0 : 0 ≤ a1.toInt) (hp1 : a1.toInt < (b9g_nodeMany S).toInt) (hq : ∀ r : Int32, (0 ≤ r.toInt) → (r.toInt ≤ (b9g_nodeLeaves S a1.toNatClampNeg).toInt) → (r.toInt ≤ 64) → Q r) : wp_X9_branchMany S a1 Q := by
  unfold wp_X9_branchMany
  have jf1 := K9g_nodeMany hJ
  have jf2 : (-4 ≤ ((b9g_now S) 1).toInt ∧ ((b9g_now S) 1).toInt ≤ 4) ∧ (-3 ≤ ((b9g_now S) 4).toInt ∧ ((b9g_now S) 4).toInt ≤ 252) ∧ (0 ≤ ((b9g_now S) 8).toInt ∧ ((b9g_now S) 8).toInt ≤ 64) ∧ (0 ≤ ((b9g_now S) 9).toInt ∧ ((b9g_now S) 9).toInt ≤ 64) ∧ (0 ≤ ((b9g_now S) 10).toInt ∧ ((b9g_now S) 10).toInt ≤ 16) ∧ (0 ≤ ((b9g_now S) 12).toInt ∧ ((b9g_now S) 12).toInt ≤ 8) := K9g_now hJ
  have rga1 := pt_rg a1
  have jx := ND_at (K9g_ND hJ) hp0 hp1
  refine ⟨pt_in (by (try simp (disch := first | ((try simp (disch := first | ((try simp only [pn]) <;> omega) | fail) only [pn, pq]) <;> omega) | fail) only [pn, pq]) <;> (intros; (try simp (disch := first | ((try simp (disch := first | ((try simp only [pn]) <;> omega) | fail) only [pn, pq]) <;> omega) | fail) only [pn, pq]) <;> omega)) (by (try simp (disch := first | ((try simp (disch := first | ((try simp only [pn]) <;> omega) | fail) only [pn, pq]) <;> omega) | fail) only [pn, pq]) <;> (intros; (try simp (disch := first | ((try simp (disch := first | ((try simp only [pn]) <;> omega) | fail) only [pn, pq]) <;> omega) | fail) only [pn, pq]) <;> omega)), ?_⟩
  have jr3 := ND_at (K9g_ND hJ) (x := a1) (by (try simp (disch := first | ((try simp (disch := first | ((try simp only [pn]) <;> omega) | fail) only [pn, pq]) <;> omega) | fail) only [pn, pq]) <;> (intros; (try simp (disch := first | ((try simp (disch := first | ((try simp only [pn]) <;> omega) | fail) only [pn, pq]) <;> omega) | fail) only [pn, pq]) <;> omega)) (by (try simp (disch := first | ((try simp (disch := first | ((try simp only [pn]) <;> omega) | fail) only [pn, pq]) <;> omega) | fail) only [pn, pq]) <;> (intros; (try simp (disch := first | ((try simp (disch := first | ((try simp only [pn]) <;> omega) | fail) only [pn, pq]) <;> omega) | fail) only [pn, pq]) <;> omega))
  try simp (disch := first | ((try simp (disch := first | ((try simp only [pn]) <;> omega) | fail) only [pn, pq]) <;> omega) | fail) only [pn, pq] at jr3
  refine ⟨fun n x1q1 x2q1 x3q1 => (x1q1 = a1) ∧ ((b9g_nodeLeaf S (x1q1).toNatClampNeg).toInt ≤ (x3q1).toInt) ∧ ((x3q1).toInt ≤ (b9g_nodeLeaf S (x1q1).toNatClampNeg).toInt + (b9g_nodeLeaves S (x1q1).toNatClampNeg).toInt) ∧ (0 ≤ (x2q1).toInt) ∧ ((x2q1).toInt ≤ (x3q1).toInt - (b9g_nodeLeaf S (x1q1).toNatClampNeg).toInt) ∧ n = ((b9g_nodeLeaf S (x1q1).toNatClampNeg).toInt + (b9g_nodeLeaves S (x1q1).toNatClampNeg).toInt - (x3q1).toInt).toNat, ⟨_, rfl, (by (try simp (disch := first | ((try simp (disch := first | ((try simp only [pn]) <;> omega) | fail) only [pn, pq]) <;> omega) | fail) only [pn, pq]) <;> (intros; (try simp (disch := first | ((try simp (disch := first | ((try simp only [pn]) <;> omega) | fail) only [pn, pq]) <;> omega) | fail) only [pn, pq]) <;> omega)), (by (try simp (disch := first | ((try simp (disch := first | ((try simp only [pn]) <;> omega) | fail) only [pn, pq]) <;> omega) | fail) only [pn, pq]) <;> (intros; (try simp (disch := first | ((try simp (disch := first | ((try simp only [pn]) <;> omega) | fail) only [pn, pq]) <;> omega) | fail) only [pn, pq]) <;> omega)), (by (try simp (disch := first | ((try simp (disch := first | ((try simp only [pn]) <;> omega) | fail) only [pn, pq]) <;> omega) | fail) only [pn, pq]) <;> (intros; (try simp (disch := first | ((try simp (disch := first | ((try simp only [pn]) <;> omega) | fail) only [pn, pq]) <;> omega) | fail) only [pn, pq]) <;> omega)), (by (try simp (disch := first | ((try simp (disch := first | ((try simp only [pn]) <;> omega) | fail) only [pn, pq]) <;> omega) | fail) only [pn, pq]) <;> (intros; (try simp (disch := first | ((try simp (disch := first | ((try simp only [pn]) <;> omega) | fail) only [pn, pq]) <;> omega) | fail) only [pn, pq]) <;> omega)), rfl⟩, ?_⟩
  rintro n2 x1q1 x2q1 x3q1 ⟨hkq1_0, hiq1_0, hiq1_1, hiq1_2, hiq1_3, hn2⟩
  subst hkq1_0
  have rgx1q1 := pt_rg x1q1
  have rgx2q1 := pt_rg x2q1
  have rgx3q1 := pt_rg x3q1
  unfold wp_X9_branchMany_9b
  refine sf_X9_lastOf hJ (by (try simp (disch := first | ((try simp (disch := first | ((try simp only [pn]) <;> omega) | fail) only [pn, pq]) <;> omega) | fail) only [pn, pq]) <;> (intros; (try simp (disch := first | ((try simp (disch := first | ((try simp only [pn]) <;> omega) | fail) only [pn, pq]) <;> omega) | fail) only [pn, pq]) <;> omega)) (by (try simp (disch := first | ((try simp (disch := first | ((try simp only [pn]) <;> omega) | fail) only [pn, pq]) <;> omega) | fail) only [pn, pq]) <;> (intros; (try simp (disch := first | ((try simp (disch := first | ((try simp only [pn]) <;> omega) | fail) only [pn, pq]) <;> omega) | fail) only [pn, pq]) <;> omega)) (fun r3 hr3_0 hr3_1 => ?_)
  have rgr3 := pt_rg r3
  try simp (disch := first | ((try simp (disch := first | ((try simp only [pn]) <;> omega) | fail) only [pn, pq]) <;> omega) | fail) only [pn, pq] at hr3_0
  try simp (disch := first | ((try simp (disch := first | ((try simp only [pn]) <;> omega) | fail) only [pn, pq]) <;> omega) | fail) only [pn, pq] at hr3_1
  refine ⟨fun c5 => ?_, fun c5 => ?_⟩
  · try simp (disch := first | ((try simp (disch := first | ((try simp only [pn]) <;> omega) | fail) only [pn, pq]) <;> omega) | fail) only [pn, pq] at c5
    exact hq _ (by (try simp (disch := first | ((try simp (disch := first | ((try simp only [pn]) <;> omega) | fail) only [pn, pq]) <;> omega) | fail) only [pn, pq]) <;> (intros; (try simp (disch := first | ((try simp (disch := first | ((try simp only [pn]) <;> omega) | fail) only [pn, pq]) <;> omega) | fail) only [pn, pq]) <;> omega)) (by (try simp (disch := first | ((try simp (disch := first | ((try simp only [pn]) <;> omega) | fail) only [pn, pq]) <;> omega) | fail) only [pn, pq]) <;> (intros; (try simp (disch := first | ((try simp (disch := first | ((try simp only [pn]) <;> omega) | fail) only [pn, pq]) <;> omega) | fail) only [pn, pq]) <;> omega)) (by (try simp (disch := first | ((try simp (disch := first | ((try simp only [pn]) <;> omega) | fail) only [pn, pq]) <;> omega) | fail) only [pn, pq]) <;> (intros; (try simp (disch := first | ((try simp (disch := first | ((try simp only [pn]) <;> omega) | fail) only [pn, pq]) <;> omega) | fail) only [pn, pq]) <;> omega))
  · try simp (disch := first | ((try simp (disch := first | ((try simp only [pn]) <;> omega) | fail) only [pn, pq]) <;> omega) | fail) only [pn, pq] at c5
    refine sf_X9_isBranch hJ (by (try simp (disch := first | ((try simp (disch := first | ((try simp only [pn]) <;> omega) | fail) only [pn, pq]) <;> omega) | fail) only [pn, pq]) <;> (intros; (try simp (disch := first | ((try simp (disch := first | ((try simp only [pn]) <;> omega) | fail) only [pn, pq]) <;> omega) | fail) only [pn, pq]) <;> omega)) (by (try simp (disch := first | ((try simp (disch := first | ((try simp only [pn]) <;> omega) | fail) only [pn, pq]) <;> omega) | fail) only [pn, pq]) <;> (intros; (try simp (disch := first | ((try simp (disch := first | ((try simp only [pn]) <;> omega) | fail) only [pn, pq]) <;> omega) | fail) only [pn, pq]) <;> omega)) (by (try simp (disch := first | ((try simp (disch := first | ((try simp only [pn]) <;> omega) | fail) only [pn, pq]) <;> omega) | fail) only [pn, pq]) <;> (intros; (try simp (disch := first | ((try simp (disch := first | ((try simp only [pn]) <;> omega) | fail) only [pn, pq]) <;> omega) | fail) only [pn, pq]) <;> omega)) (by (try simp (disch := first | ((try simp (disch := first | ((try simp only [pn]) <;> omega) | fail) only [pn, pq]) <;> omega) | fail) only [pn, pq]) <;> (intros; (try simp (disch := first | ((try simp (disch := first | ((try simp only [pn]) <;> omega) | fail) only [pn, pq]) <;> omega) | fail) only [pn, pq]) <;> omega)) (fun r6 hzr6 hr6_0 => ?_)
    try simp (disch := first | ((try simp (disch := first | ((try simp only [pn]) <;> omega) | fail) only [pn, pq]) <;> omega) | fail) only [pn, pq] at hr6_0
    refine ⟨fun c8 => ?_, fun c8 => ?_⟩
    · try simp (disch := first | ((try simp (disch := first | ((try simp only [pn]) <;> omega) | fail) only [pn, pq]) <;> omega) | fail) only [pn, pq] at c8
      unfold wp_X9_branchMany_31
      refine ⟨_, ?_, ?_, ?_, ?_, ?_, ?_, rfl⟩
      · (try simp (disch := first | ((try simp (disch := first | ((try simp only [pn]) <;> omega) | fail) only [pn, pq]) <;> omega) | fail) only [pn, pq]) <;> (intros; (try simp (disch := first | ((try simp (disch := first | ((try simp only [pn]) <;> omega) | fail) only [pn, pq]) <;> omega) | fail) only [pn, pq]) <;> omega)
      · first | rfl | assumption
      · (try simp (disch := first | ((try simp (disch := first | ((try simp only [pn]) <;> omega) | fail) only [pn, pq]) <;> omega) | fail) only [pn, pq]) <;> (intros; (try simp (disch := first | ((try simp (disch := first | ((try simp only [pn]) <;> omega) | fail) only [pn, pq]) <;> omega) | fail) only [pn, pq]) <;> omega)
      · (try simp (disch := first | ((try simp (disch := first | ((try simp only [pn]) <;> omega) | fail) only [pn, pq]) <;> omega) | fail) only [pn, pq]) <;> (intros; (try simp (disch := first | ((try simp (disch := first | ((try simp only [pn]) <;> omega) | fail) only [pn, pq]) <;> omega) | fail) only [pn, pq]) <;> omega)
      · (try simp (disch := first | ((try simp (disch := first | ((try simp only [pn]) <;> omega) | fail) only [pn, pq]) <;> omega) | fail) only [pn, pq]) <;> (intros; (try simp (disch := first | ((try simp (disch := first | ((try simp only [pn]) <;> omega) | fail) only [pn, pq]) <;> omega) | fail) only [pn, pq]) <;> omega)
      · (try simp (disch := first | ((try simp (disch := first | ((try simp only [pn]) <;> omega) | fail) only [pn, pq]) <;> omega) | fail) only [pn, pq]) <;> (intros; (try simp (disch := first | ((try simp (disch := first | ((try simp only [pn]) <;> omega) | fail) only [pn, pq]) <;> omega) | fail) only [pn, pq]) <;> omega)
    · try simp (disch := first | ((try simp (disch := first | ((try simp only [pn]) <;> omega) | fail) only [pn, pq]) <;> omega) | fail) only [pn, pq] at c8
      unfold wp_X9_branchMany_31
      refine ⟨_, ?_, ?_, ?_, ?_, ?_, ?_, rfl⟩
      · (try simp (disch := first | ((try simp (disch := first | ((try simp only [pn]) <;> omega) | fail) only [pn, pq]) <;> omega) | fail) only [pn, pq]) <;> (intros; (try simp (disch := first | ((try simp (disch := first | ((try simp only [pn]) <;> omega) | fail) only [pn, pq]) <;> omega) | fail) only [pn, pq]) <;> omega)
      · first | rfl | assumption
      · (try simp (disch := first | ((try simp (disch := first | ((try simp only [pn]) <;> omega) | fail) only [pn, pq]) <;> omega) | fail) only [pn, pq]) <;> (intros; (try simp (disch := first | ((try simp (disch := first | ((try simp only [pn]) <;> omega) | fail) only [pn, pq]) <;> omega) | fail) only [pn, pq]) <;> omega)
      · (try simp (disch := first | ((try simp (disch := first | ((try simp only [pn]) <;> omega) | fail) only [pn, pq]) <;> omega) | fail) only [pn, pq]) <;> (intros; (try simp (disch := first | ((try simp (disch := first | ((try simp only [pn]) <;> omega) | fail) only [pn, pq]) <;> omega) | fail) only [pn, pq]) <;> omega)
      · (try simp (disch := first | ((try simp (disch := first | ((try simp only [pn]) <;> omega) | fail) only [pn, pq]) <;> omega) | fail) only [pn, pq]) <;> (intros; (try simp (disch := first | ((try simp (disch := first | ((try simp only [pn]) <;> omega) | fail) only [pn, pq]) <;> omega) | fail) only [pn, pq]) <;> omega)
      · (try simp (disch := first | ((try simp (disch := first | ((try simp only [pn]) <;> omega) | fail) only [pn, pq]) <;> omega) | fail) only [pn, pq]) <;> (intros; (try simp (disch := first | ((try simp (disch := first | ((try simp only [pn]) <;> omega) | fail) only [pn, pq]) <;> omega) | fail) only [pn, pq]) <;> omega)
set_option maxRecDepth 20000 in
set_option maxHeartbeats 8000000 in
theorem sf_X9_bitsOf {S : bT9} (hJ : K9 S) {a1 : Int32} {a2 : Int32} {Q : Int32 → Prop} (hp0 : 0 ≤ a1.toInt) (hp1 : a1.toInt < (b9g_nodeMany S).toInt) (hq : ∀ r : Int32, (0 ≤ r.toInt) → (r.toInt ≤ 715) → Q r) : wp_X9_bitsOf S a1 a2 Q := by
  unfold wp_X9_bitsOf
  have jf1 := K9g_nodeMany hJ
  have jf2 : (-4 ≤ ((b9g_now S) 1).toInt ∧ ((b9g_now S) 1).toInt ≤ 4) ∧ (-3 ≤ ((b9g_now S) 4).toInt ∧ ((b9g_now S) 4).toInt ≤ 252) ∧ (0 ≤ ((b9g_now S) 8).toInt ∧ ((b9g_now S) 8).toInt ≤ 64) ∧ (0 ≤ ((b9g_now S) 9).toInt ∧ ((b9g_now S) 9).toInt ≤ 64) ∧ (0 ≤ ((b9g_now S) 10).toInt ∧ ((b9g_now S) 10).toInt ≤ 16) ∧ (0 ≤ ((b9g_now S) 12).toInt ∧ ((b9g_now S) 12).toInt ≤ 8) := K9g_now hJ
  have rga1 := pt_rg a1
  have rga2 := pt_rg a2
  refine ⟨fun c1 => ?_, fun c1 => ?_⟩
  · try simp (disch := first | ((try simp (disch := first | ((try simp only [pn]) <;> omega) | fail) only [pn, pq]) <;> omega) | fail) only [pn, pq] at c1
    refine sf_X9_branchMany hJ (by (try simp (disch := first | ((try simp (disch := first | ((try simp only [pn]) <;> omega) | fail) only [pn, pq]) <;> omega) | fail) only [pn, pq]) <;> (intros; (try simp (disch := first | ((try simp (disch := first | ((try simp only [pn]) <;> omega) | fail) only [pn, pq]) <;> omega) | fail) only [pn, pq]) <;> omega)) (by (try simp (disch := first | ((try simp (disch := first | ((try simp only [pn]) <;> omega) | fail) only [pn, pq]) <;> omega) | fail) only [pn, pq]) <;> (intros; (try simp (disch := first | ((try simp (disch := first | ((try simp only [pn]) <;> omega) | fail) only [pn, pq]) <;> omega) | fail) only [pn, pq]) <;> omega)) (fun r2 hr2_0 hr2_1 hr2_2 => ?_)
    have rgr2 := pt_rg r2
    try simp (disch := first | ((try simp (disch := first | ((try simp only [pn]) <;> omega) | fail) only [pn, pq]) <;> omega) | fail) only [pn, pq] at hr2_0
    try simp (disch := first | ((try simp (disch := first | ((try simp only [pn]) <;> omega) | fail) only [pn, pq]) <;> omega) | fail) only [pn, pq] at hr2_1
    try simp (disch := first | ((try simp (disch := first | ((try simp only [pn]) <;> omega) | fail) only [pn, pq]) <;> omega) | fail) only [pn, pq] at hr2_2
    refine sf_X9_isNodeEnd hJ (by (try simp (disch := first | ((try simp (disch := first | ((try simp only [pn]) <;> omega) | fail) only [pn, pq]) <;> omega) | fail) only [pn, pq]) <;> (intros; (try simp (disch := first | ((try simp (disch := first | ((try simp only [pn]) <;> omega) | fail) only [pn, pq]) <;> omega) | fail) only [pn, pq]) <;> omega)) (by (try simp (disch := first | ((try simp (disch := first | ((try simp only [pn]) <;> omega) | fail) only [pn, pq]) <;> omega) | fail) only [pn, pq]) <;> (intros; (try simp (disch := first | ((try simp (disch := first | ((try simp only [pn]) <;> omega) | fail) only [pn, pq]) <;> omega) | fail) only [pn, pq]) <;> omega)) (fun r4 hzr4 hr4_0 => ?_)
    try simp (disch := first | ((try simp (disch := first | ((try simp only [pn]) <;> omega) | fail) only [pn, pq]) <;> omega) | fail) only [pn, pq] at hr4_0
    refine ⟨fun c6 => ?_, fun c6 => ?_⟩
    · try simp (disch := first | ((try simp (disch := first | ((try simp only [pn]) <;> omega) | fail) only [pn, pq]) <;> omega) | fail) only [pn, pq] at c6
      exact hq _ (by (try simp (disch := first | ((try simp (disch := first | ((try simp only [pn]) <;> omega) | fail) only [pn, pq]) <;> omega) | fail) only [pn, pq]) <;> (intros; (try simp (disch := first | ((try simp (disch := first | ((try simp only [pn]) <;> omega) | fail) only [pn, pq]) <;> omega) | fail) only [pn, pq]) <;> omega)) (by (try simp (disch := first | ((try simp (disch := first | ((try simp only [pn]) <;> omega) | fail) only [pn, pq]) <;> omega) | fail) only [pn, pq]) <;> (intros; (try simp (disch := first | ((try simp (disch := first | ((try simp only [pn]) <;> omega) | fail) only [pn, pq]) <;> omega) | fail) only [pn, pq]) <;> omega))
    · try simp (disch := first | ((try simp (disch := first | ((try simp only [pn]) <;> omega) | fail) only [pn, pq]) <;> omega) | fail) only [pn, pq] at c6
      exact hq _ (by (try simp (disch := first | ((try simp (disch := first | ((try simp only [pn]) <;> omega) | fail) only [pn, pq]) <;> omega) | fail) only [pn, pq]) <;> (intros; (try simp (disch := first | ((try simp (disch := first | ((try simp only [pn]) <;> omega) | fail) only [pn, pq]) <;> omega) | fail) only [pn, pq]) <;> omega)) (by (try simp (disch := first | ((try simp (disch := first | ((try simp only [pn]) <;> omega) | fail) only [pn, pq]) <;> omega) | fail) only [pn, pq]) <;> (intros; (try simp (disch := first | ((try simp (disch := first | ((try simp only [pn]) <;> omega) | fail) only [pn, pq]) <;> omega) | fail) only [pn, pq]) <;> omega))
  · try simp (disch := first | ((try simp (disch := first | ((try simp only [pn]) <;> omega) | fail) only [pn, pq]) <;> omega) | fail) only [pn, pq] at c1
    exact hq _ (by (try simp (disch := first | ((try simp (disch := first | ((try simp only [pn]) <;> omega) | fail) only [pn, pq]) <;> omega) | fail) only [pn, pq]) <;> (intros; (try simp (disch := first | ((try simp (disch := first | ((try simp only [pn]) <;> omega) | fail) only [pn, pq]) <;> omega) | fail) only [pn, pq]) <;> omega)) (by (try simp (disch := first | ((try simp (disch := first | ((try simp only [pn]) <;> omega) | fail) only [pn, pq]) <;> omega) | fail) only [pn, pq]) <;> (intros; (try simp (disch := first | ((try simp (disch := first | ((try simp only [pn]) <;> omega) | fail) only [pn, pq]) <;> omega) | fail) only [pn, pq]) <;> omega))
set_option maxRecDepth 20000 in
set_option maxHeartbeats 8000000 in
theorem sf_X9_bitsBelow {S : bT9} (hJ : K9 S) {a1 : Int32} {Q : Int32 → Prop} (hq : ∀ r : Int32, (0 ≤ r.toInt) → (r.toInt ≤ 366080) → Q r) : wp_X9_bitsBelow S a1 Q := by
  unfold wp_X9_bitsBelow
  have jf1 := K9g_nodeMany hJ
  have jf2 : (-4 ≤ ((b9g_now S) 1).toInt ∧ ((b9g_now S) 1).toInt ≤ 4) ∧ (-3 ≤ ((b9g_now S) 4).toInt ∧ ((b9g_now S) 4).toInt ≤ 252) ∧ (0 ≤ ((b9g_now S) 8).toInt ∧ ((b9g_now S) 8).toInt ≤ 64) ∧ (0 ≤ ((b9g_now S) 9).toInt ∧ ((b9g_now S) 9).toInt ≤ 64) ∧ (0 ≤ ((b9g_now S) 10).toInt ∧ ((b9g_now S) 10).toInt ≤ 16) ∧ (0 ≤ ((b9g_now S) 12).toInt ∧ ((b9g_now S) 12).toInt ≤ 8) := K9g_now hJ
  have rga1 := pt_rg a1
  refine ⟨fun n x1q1 x2q1 x3q1 => (x1q1 = a1) ∧ (0 ≤ (x3q1).toInt) ∧ ((x3q1).toInt ≤ 512) ∧ (0 ≤ (x2q1).toInt) ∧ ((x2q1).toInt ≤ 715 * (x3q1).toInt) ∧ n = ((b9g_nodeMany S).toInt + 1 - (x3q1).toInt).toNat, ⟨_, rfl, (by (try simp (disch := first | ((try simp (disch := first | ((try simp only [pn]) <;> omega) | fail) only [pn, pq]) <;> omega) | fail) only [pn, pq]) <;> (intros; (try simp (disch := first | ((try simp (disch := first | ((try simp only [pn]) <;> omega) | fail) only [pn, pq]) <;> omega) | fail) only [pn, pq]) <;> omega)), (by (try simp (disch := first | ((try simp (disch := first | ((try simp only [pn]) <;> omega) | fail) only [pn, pq]) <;> omega) | fail) only [pn, pq]) <;> (intros; (try simp (disch := first | ((try simp (disch := first | ((try simp only [pn]) <;> omega) | fail) only [pn, pq]) <;> omega) | fail) only [pn, pq]) <;> omega)), (by (try simp (disch := first | ((try simp (disch := first | ((try simp only [pn]) <;> omega) | fail) only [pn, pq]) <;> omega) | fail) only [pn, pq]) <;> (intros; (try simp (disch := first | ((try simp (disch := first | ((try simp only [pn]) <;> omega) | fail) only [pn, pq]) <;> omega) | fail) only [pn, pq]) <;> omega)), (by (try simp (disch := first | ((try simp (disch := first | ((try simp only [pn]) <;> omega) | fail) only [pn, pq]) <;> omega) | fail) only [pn, pq]) <;> (intros; (try simp (disch := first | ((try simp (disch := first | ((try simp only [pn]) <;> omega) | fail) only [pn, pq]) <;> omega) | fail) only [pn, pq]) <;> omega)), rfl⟩, ?_⟩
  rintro n2 x1q1 x2q1 x3q1 ⟨hkq1_0, hiq1_0, hiq1_1, hiq1_2, hiq1_3, hn2⟩
  subst hkq1_0
  have rgx1q1 := pt_rg x1q1
  have rgx2q1 := pt_rg x2q1
  have rgx3q1 := pt_rg x3q1
  unfold wp_X9_bitsBelow_4b
  refine ⟨fun c3 => ?_, fun c3 => ?_⟩
  · try simp (disch := first | ((try simp (disch := first | ((try simp only [pn]) <;> omega) | fail) only [pn, pq]) <;> omega) | fail) only [pn, pq] at c3
    exact hq _ (by (try simp (disch := first | ((try simp (disch := first | ((try simp only [pn]) <;> omega) | fail) only [pn, pq]) <;> omega) | fail) only [pn, pq]) <;> (intros; (try simp (disch := first | ((try simp (disch := first | ((try simp only [pn]) <;> omega) | fail) only [pn, pq]) <;> omega) | fail) only [pn, pq]) <;> omega)) (by (try simp (disch := first | ((try simp (disch := first | ((try simp only [pn]) <;> omega) | fail) only [pn, pq]) <;> omega) | fail) only [pn, pq]) <;> (intros; (try simp (disch := first | ((try simp (disch := first | ((try simp only [pn]) <;> omega) | fail) only [pn, pq]) <;> omega) | fail) only [pn, pq]) <;> omega))
  · try simp (disch := first | ((try simp (disch := first | ((try simp only [pn]) <;> omega) | fail) only [pn, pq]) <;> omega) | fail) only [pn, pq] at c3
    refine ⟨pt_in (by (try simp (disch := first | ((try simp (disch := first | ((try simp only [pn]) <;> omega) | fail) only [pn, pq]) <;> omega) | fail) only [pn, pq]) <;> (intros; (try simp (disch := first | ((try simp (disch := first | ((try simp only [pn]) <;> omega) | fail) only [pn, pq]) <;> omega) | fail) only [pn, pq]) <;> omega)) (by (try simp (disch := first | ((try simp (disch := first | ((try simp only [pn]) <;> omega) | fail) only [pn, pq]) <;> omega) | fail) only [pn, pq]) <;> (intros; (try simp (disch := first | ((try simp (disch := first | ((try simp only [pn]) <;> omega) | fail) only [pn, pq]) <;> omega) | fail) only [pn, pq]) <;> omega)), ?_⟩
    have jr3 := ND_at (K9g_ND hJ) (x := x3q1) (by (try simp (disch := first | ((try simp (disch := first | ((try simp only [pn]) <;> omega) | fail) only [pn, pq]) <;> omega) | fail) only [pn, pq]) <;> (intros; (try simp (disch := first | ((try simp (disch := first | ((try simp only [pn]) <;> omega) | fail) only [pn, pq]) <;> omega) | fail) only [pn, pq]) <;> omega)) (by (try simp (disch := first | ((try simp (disch := first | ((try simp only [pn]) <;> omega) | fail) only [pn, pq]) <;> omega) | fail) only [pn, pq]) <;> (intros; (try simp (disch := first | ((try simp (disch := first | ((try simp only [pn]) <;> omega) | fail) only [pn, pq]) <;> omega) | fail) only [pn, pq]) <;> omega))
    try simp (disch := first | ((try simp (disch := first | ((try simp only [pn]) <;> omega) | fail) only [pn, pq]) <;> omega) | fail) only [pn, pq] at jr3
    refine ⟨fun c4 => ?_, fun c4 => ?_⟩
    · try simp (disch := first | ((try simp (disch := first | ((try simp only [pn]) <;> omega) | fail) only [pn, pq]) <;> omega) | fail) only [pn, pq] at c4
      unfold wp_X9_bitsBelow_31
      refine ⟨_, ?_, ?_, ?_, ?_, ?_, ?_, rfl⟩
      · (try simp (disch := first | ((try simp (disch := first | ((try simp only [pn]) <;> omega) | fail) only [pn, pq]) <;> omega) | fail) only [pn, pq]) <;> (intros; (try simp (disch := first | ((try simp (disch := first | ((try simp only [pn]) <;> omega) | fail) only [pn, pq]) <;> omega) | fail) only [pn, pq]) <;> omega)
      · first | rfl | assumption
      · (try simp (disch := first | ((try simp (disch := first | ((try simp only [pn]) <;> omega) | fail) only [pn, pq]) <;> omega) | fail) only [pn, pq]) <;> (intros; (try simp (disch := first | ((try simp (disch := first | ((try simp only [pn]) <;> omega) | fail) only [pn, pq]) <;> omega) | fail) only [pn, pq]) <;> omega)
      · (try simp (disch := first | ((try simp (disch := first | ((try simp only [pn]) <;> omega) | fail) only [pn, pq]) <;> omega) | fail) only [pn, pq]) <;> (intros; (try simp (disch := first | ((try simp (disch := first | ((try simp only [pn]) <;> omega) | fail) only [pn, pq]) <;> omega) | fail) only [pn, pq]) <;> omega)
      · (try simp (disch := first | ((try simp (disch := first | ((try simp only [pn]) <;> omega) | fail) only [pn, pq]) <;> omega) | fail) only [pn, pq]) <;> (intros; (try simp (disch := first | ((try simp (disch := first | ((try simp only [pn]) <;> omega) | fail) only [pn, pq]) <;> omega) | fail) only [pn, pq]) <;> omega)
      · (try simp (disch := first | ((try simp (disch := first | ((try simp only [pn]) <;> omega) | fail) only [pn, pq]) <;> omega) | fail) only [pn, pq]) <;> (intros; (try simp (disch := first | ((try simp (disch := first | ((try simp only [pn]) <;> omega) | fail) only [pn, pq]) <;> omega) | fail) only [pn, pq]) <;> omega)
    · try simp (disch := first | ((try simp (disch := first | ((try simp only [pn]) <;> omega) | fail) only [pn, pq]) <;> omega) | fail) only [pn, pq] at c4
      refine sf_X9_bitsOf hJ (by (try simp (disch := first | ((try simp (disch := first | ((try simp only [pn]) <;> omega) | fail) only [pn, pq]) <;> omega) | fail) only [pn, pq]) <;> (intros; (try simp (disch := first | ((try simp (disch := first | ((try simp only [pn]) <;> omega) | fail) only [pn, pq]) <;> omega) | fail) only [pn, pq]) <;> omega)) (by (try simp (disch := first | ((try simp (disch := first | ((try simp only [pn]) <;> omega) | fail) only [pn, pq]) <;> omega) | fail) only [pn, pq]) <;> (intros; (try simp (disch := first | ((try simp (disch := first | ((try simp only [pn]) <;> omega) | fail) only [pn, pq]) <;> omega) | fail) only [pn, pq]) <;> omega)) (fun r5 hr5_0 hr5_1 => ?_)
      have rgr5 := pt_rg r5
      try simp (disch := first | ((try simp (disch := first | ((try simp only [pn]) <;> omega) | fail) only [pn, pq]) <;> omega) | fail) only [pn, pq] at hr5_0
      try simp (disch := first | ((try simp (disch := first | ((try simp only [pn]) <;> omega) | fail) only [pn, pq]) <;> omega) | fail) only [pn, pq] at hr5_1
      unfold wp_X9_bitsBelow_31
      refine ⟨_, ?_, ?_, ?_, ?_, ?_, ?_, rfl⟩
      · (try simp (disch := first | ((try simp (disch := first | ((try simp only [pn]) <;> omega) | fail) only [pn, pq]) <;> omega) | fail) only [pn, pq]) <;> (intros; (try simp (disch := first | ((try simp (disch := first | ((try simp only [pn]) <;> omega) | fail) only [pn, pq]) <;> omega) | fail) only [pn, pq]) <;> omega)
      · first | rfl | assumption
      · (try simp (disch := first | ((try simp (disch := first | ((try simp only [pn]) <;> omega) | fail) only [pn, pq]) <;> omega) | fail) only [pn, pq]) <;> (intros; (try simp (disch := first | ((try simp (disch := first | ((try simp only [pn]) <;> omega) | fail) only [pn, pq]) <;> omega) | fail) only [pn, pq]) <;> omega)
      · (try simp (disch := first | ((try simp (disch := first | ((try simp only [pn]) <;> omega) | fail) only [pn, pq]) <;> omega) | fail) only [pn, pq]) <;> (intros; (try simp (disch := first | ((try simp (disch := first | ((try simp only [pn]) <;> omega) | fail) only [pn, pq]) <;> omega) | fail) only [pn, pq]) <;> omega)
      · (try simp (disch := first | ((try simp (disch := first | ((try simp only [pn]) <;> omega) | fail) only [pn, pq]) <;> omega) | fail) only [pn, pq]) <;> (intros; (try simp (disch := first | ((try simp (disch := first | ((try simp only [pn]) <;> omega) | fail) only [pn, pq]) <;> omega) | fail) only [pn, pq]) <;> omega)
      · (try simp (disch := first | ((try simp (disch := first | ((try simp only [pn]) <;> omega) | fail) only [pn, pq]) <;> omega) | fail) only [pn, pq]) <;> (intros; (try simp (disch := first | ((try simp (disch := first | ((try simp only [pn]) <;> omega) | fail) only [pn, pq]) <;> omega) | fail) only [pn, pq]) <;> omega)
theorem sf_X9_upperBy {S : bT9} (hJ : K9 S) {a1 : Int32} {Q : Int32 → Prop} (hq : ∀ r : Int32, Q r) : wp_X9_upperBy S a1 Q := by
  unfold wp_X9_upperBy
  have jf := K9g_levelMany hJ
  refine ⟨fun c1 => ⟨fun c2 => ?_, fun c2 => ⟨fun c3 => hq _, fun c3 => hq _⟩⟩, fun c1 => hq _⟩
  unfold wp_X9_upperBy_37
  refine ⟨fun n x => 0 ≤ x.toInt ∧ n = x.toInt.toNat, ⟨_, jf.1, rfl⟩, ?_⟩
  rintro n x ⟨h0, hn⟩
  unfold wp_X9_upperBy_37b
  refine ⟨pt_in (by decide) (by decide), sf_X9_bitsAbove hJ (fun r1 k1 k2 k3 => sf_X9_bitsBelow hJ (fun r3 m1 m2 => ⟨fun _ => hq _, fun c => ?_⟩))⟩
  have hx : x.toInt ≠ 0 := by
    intro hx
    have e := k3 (by omega)
    apply c
    rw [Int32.le_iff_toInt_le, Int32.toInt_mul, e, Int.mul_zero]
    exact m1
  have rg := pt_rg x
  have e1 : (x - 1).toInt = x.toInt - 1 := by rw [pt_sub (by rw [pl_1]; omega) (by rw [pl_1]; omega), pl_1]
  exact ⟨_, by omega, by omega, rfl⟩
def F_X9_laysNodes (S u : bT9) : Prop := (b9g_told u) = (b9g_told S) ∧ (b9g_now u) = (b9g_now S) ∧ (b9g_keys u) = (b9g_keys S) ∧ (b9g_lengths u) = (b9g_lengths S) ∧ (b9g_drawn u) = (b9g_drawn S) ∧ (b9g_drawnLength u) = (b9g_drawnLength S) ∧ (b9g_tape u) = (b9g_tape S) ∧ (b9g_taped u) = (b9g_taped S) ∧ (b9g_names u) = (b9g_names S) ∧ (b9g_chosen u) = (b9g_chosen S) ∧ (b9g_lowKey u) = (b9g_lowKey S) ∧ (b9g_highKey u) = (b9g_highKey S) ∧ (b9g_lowLength u) = (b9g_lowLength S) ∧ (b9g_highLength u) = (b9g_highLength S) ∧ (b9g_fromKey u) = (b9g_fromKey S) ∧ (b9g_toKey u) = (b9g_toKey S) ∧ (b9g_fromLength u) = (b9g_fromLength S) ∧ (b9g_toLength u) = (b9g_toLength S) ∧ (b9g_ones u) = (b9g_ones S) ∧ (b9g_oneMany u) = (b9g_oneMany S) ∧ (b9g_rowLong u) = (b9g_rowLong S) ∧ (b9g_signs u) = (b9g_signs S) ∧ (b9g_signMany u) = (b9g_signMany S) ∧ (b9g_hasImage u) = (b9g_hasImage S) ∧ (b9g_images u) = (b9g_images S) ∧ (b9g_keyImages u) = (b9g_keyImages S) ∧ (b9g_lengthImages u) = (b9g_lengthImages S)
theorem sf_X9_laysNodes {S : bT9} (hJ : J9 S) {Q : (bT9) → Prop} (hq : ∀ u : bT9, (J9 u) → F_X9_laysNodes S u → (T9P S → TDW S → TDW u ∧ (b9g_areNodesLaid u).toInt ≠ 0 ∧ (b9g_isLaid u).toInt ≠ 0) → Q u) : wp_X9_laysNodes S Q := by
  unfold wp_X9_laysNodes
  refine sf_X9_laysBeginnings hJ (fun u19 hJ19 hf19 hil19 => ?_)
  have hF19 : F_X9_laysNodes S u19 := ⟨hf19.1, hf19.2.1, hf19.2.2.1, hf19.2.2.2.1, hf19.2.2.2.2.1, hf19.2.2.2.2.2.1, hf19.2.2.2.2.2.2.1, hf19.2.2.2.2.2.2.2.1, hf19.2.2.2.2.2.2.2.2.1, hf19.2.2.2.2.2.2.2.2.2.1, hf19.2.2.2.2.2.2.2.2.2.2.2.2.2.2.2.2.2.2.2.2.2.2.2.2.2.1, hf19.2.2.2.2.2.2.2.2.2.2.2.2.2.2.2.2.2.2.2.2.2.2.2.2.2.2.1, hf19.2.2.2.2.2.2.2.2.2.2.2.2.2.2.2.2.2.2.2.2.2.2.2.2.2.2.2.1, hf19.2.2.2.2.2.2.2.2.2.2.2.2.2.2.2.2.2.2.2.2.2.2.2.2.2.2.2.2.1, hf19.2.2.2.2.2.2.2.2.2.2.2.2.2.2.2.2.2.2.2.2.2.2.2.2.2.2.2.2.2.1, hf19.2.2.2.2.2.2.2.2.2.2.2.2.2.2.2.2.2.2.2.2.2.2.2.2.2.2.2.2.2.2.1, hf19.2.2.2.2.2.2.2.2.2.2.2.2.2.2.2.2.2.2.2.2.2.2.2.2.2.2.2.2.2.2.2.1, hf19.2.2.2.2.2.2.2.2.2.2.2.2.2.2.2.2.2.2.2.2.2.2.2.2.2.2.2.2.2.2.2.2.1, hf19.2.2.2.2.2.2.2.2.2.2.2.2.2.2.2.2.2.2.2.2.2.2.2.2.2.2.2.2.2.2.2.2.2.1, hf19.2.2.2.2.2.2.2.2.2.2.2.2.2.2.2.2.2.2.2.2.2.2.2.2.2.2.2.2.2.2.2.2.2.2.1, hf19.2.2.2.2.2.2.2.2.2.2.2.2.2.2.2.2.2.2.2.2.2.2.2.2.2.2.2.2.2.2.2.2.2.2.2.1, hf19.2.2.2.2.2.2.2.2.2.2.2.2.2.2.2.2.2.2.2.2.2.2.2.2.2.2.2.2.2.2.2.2.2.2.2.2.2.1, hf19.2.2.2.2.2.2.2.2.2.2.2.2.2.2.2.2.2.2.2.2.2.2.2.2.2.2.2.2.2.2.2.2.2.2.2.2.2.2.1, hf19.2.2.2.2.2.2.2.2.2.2.2.2.2.2.2.2.2.2.2.2.2.2.2.2.2.2.2.2.2.2.2.2.2.2.2.2.2.2.2.1, hf19.2.2.2.2.2.2.2.2.2.2.2.2.2.2.2.2.2.2.2.2.2.2.2.2.2.2.2.2.2.2.2.2.2.2.2.2.2.2.2.2.1, hf19.2.2.2.2.2.2.2.2.2.2.2.2.2.2.2.2.2.2.2.2.2.2.2.2.2.2.2.2.2.2.2.2.2.2.2.2.2.2.2.2.2.1, hf19.2.2.2.2.2.2.2.2.2.2.2.2.2.2.2.2.2.2.2.2.2.2.2.2.2.2.2.2.2.2.2.2.2.2.2.2.2.2.2.2.2.2⟩
  refine ⟨fun c => ?_, fun c => hq _ hJ19 hF19 (fun hP hW => ⟨TDW_same hW ⟨hf19.2.2.1, hf19.2.2.2.1, hf19.2.1⟩ (hf19.2.2.2.2.2.2.2.2.2.2.2.2.2.2.2.2.2.1) (hf19.2.2.2.2.2.2.2.2.2.2.1) (hf19.2.2.2.2.2.2.2.2.2.2.2.1) (hf19.2.2.2.2.2.2.2.2.2.2.2.2.1) (hf19.2.2.2.2.2.2.2.2.2.2.2.2.2.1) (hf19.2.2.2.2.2.2.2.2.2.2.2.2.2.2.1) (hf19.2.2.2.2.2.2.2.2.2.2.2.2.2.2.2.1) (hf19.2.2.2.2.2.2.2.2.2.2.2.2.2.2.2.2.1) (hf19.2.2.2.2.2.2.2.2.2.2.2.2.2.2.2.2.2.2.1) (hf19.2.2.2.2.2.2.2.2.2.2.2.2.2.2.2.2.2.2.2.1) (hf19.2.2.2.2.2.2.2.2.2.2.2.2.2.2.2.2.2.2.2.2.1) (hf19.2.2.2.2.2.2.2.2.2.2.2.2.2.2.2.2.2.2.2.2.2.1) (hf19.2.2.2.2.2.2.2.2.2.2.2.2.2.2.2.2.2.2.2.2.2.2.1) (hf19.2.2.2.2.2.2.2.2.2.2.2.2.2.2.2.2.2.2.2.2.2.2.2.1) (hf19.2.2.2.2.2.2.2.2.2.2.2.2.2.2.2.2.2.2.2.2.2.2.2.2.2.2.2.2.2.2.2.2.2.2.2.2.1) (hf19.2.2.2.2.2.2.2.2.2.2.2.2.2.2.2.2.2.2.2.2.2.2.2.2.2.2.2.2.2.2.2.2.2.2.1) (hf19.2.2.2.2.2.2.2.2.2.2.2.2.2.2.2.2.2.2.2.2.2.2.2.2.2.2.2.2.2.2.2.2.2.2.2.1) (hf19.2.2.2.2.2.2.2.2.2.2.2.2.2.2.2.2.2.2.2.2.2.2.2.2.2.2.2.2.2.2.2.2.2.1), fun z => c (Int32.toInt_inj.mp z), hil19⟩)⟩
  intro S20 e20 S21 e21 S22 e22 S23 e23
  have hK21 : K9 S21 := by rw [e21, e20]; exact K9s_laidFor (K9s_areNodesLaid hJ19.1)
  have hF21 : F_X9_laysNodes S S21 := by rw [e21, e20]; exact hF19
  have hK23 : K9 S23 := by
    rw [e23, e22]
    exact K9s_levelMany (K9s_nodeMany hK21 ⟨by decide, by decide⟩ (fun x hx => by rw [pl_0] at hx; omega)) ⟨by decide, by decide⟩
  have hF23 : F_X9_laysNodes S S23 := by rw [e23, e22]; exact hF21
  have hm23 : (b9g_nodeMany S23).toInt = 0 := by rw [e23, e22]; rfl
  have hTR23 : TR S23 0 0 := by
    refine ⟨fun x hx => ?_, fun l i h0 h1 h2 h3 => ?_, fun x hx => ?_, by rw [e23, e22, e21, e20]; exact hJ19.2.2⟩
    · rw [hm23] at hx; omega
    · omega
    · rw [hm23] at hx; omega
  have hW23 : NSW S23 := ⟨fun x hx => by rw [hm23] at hx; omega, fun _ => by rw [e23]; rfl, fun x hx => by rw [hm23] at hx; omega, ⟨by rw [e23, e22, e21, e20], by rw [e23, e22, e21]⟩, by rw [e23, e22, e21, e20]; exact hil19⟩
  have last : ∀ V : bT9, K9 V → F_X9_laysNodes S V → TR V 8 0 → NSW V → wp_X9_laysNodes_34b V 8 Q (fun _ _ => False) := by
    intro V hK hF hT hWV
    by_cases hP : T9P S
    case pos =>
      have sm : SM9 V S := ⟨hF.2.2.1, hF.2.2.2.1, hF.2.1⟩
      have hPV := T9P_same hP sm
      have jm := K9g_nodeMany hK
      have rV : R9 V := R9_LD hPV.1 hPV.2.1 hK hT.2.2.2 hWV.2.2.2.2
      have nV : N9 V := NOD_TR rV (K9g_ND hK) jm.1 hT.1 hT.2.1 hT.2.2.1 hWV.1
      have jl := K9g_levelMany hK
      obtain ⟨lv, elv⟩ : ∃ lv : Nat, (b9g_levelMany V).toInt = (lv : Int) := ⟨(b9g_levelMany V).toInt.toNat, by omega⟩
      have hlev := LEVS_last rV nV hWV.2.1 hWV.2.2.1
      have G := rV.1
      have n5 := NB_le G (l := 7) (i := 64) (by omega) (by omega)
      have nb5 : NB (n9 V) (C9 V) (P9 V) (64 * 7 + 64) = NB (n9 V) (C9 V) (P9 V) 512 := rfl
      have hm := nV.1
      have den : ¬ lv = 0 → 0 ≤ (b9g_now V 13 - 1).toInt := by
        intro z
        rcases hPV.2.2 with y | y
        · exfalso
          rcases hlev with ⟨y1, _⟩ | ⟨q, y1, _, y3, _⟩
          · omega
          · have e0 : n9 V = 0 := by unfold n9; omega
            have k : NB (n9 V) (C9 V) (P9 V) (64 * (q + 1)) = NB (n9 V) (C9 V) (P9 V) (64 * q) := CTP_st _ (by omega) (fun w _ _ r => by have := r.1; omega)
            omega
        · exact y
      unfold wp_X9_laysNodes_34b
      refine ⟨fun _ => ⟨pt_in (by decide) (by decide), fx9_upperBy rV nV elv (by omega) den (fun r14 u hr hul hU S16 e16 S17 e17 => ?_)⟩, fun c => absurd (Int32.le_refl _) c⟩
      have hK17 : K9 S17 := by rw [e17, e16]; exact K9s_upperNodes (K9s_upper hK) ⟨by decide, by decide⟩
      have hJ17 : J9 S17 := ⟨hK17, by
        have a : (b9g_upperNodes S17).toInt = 0 := by rw [e17]; rfl
        have b : b9g_nodeMany S17 = b9g_nodeMany V := by rw [e17, e16]
        rw [a, b]; exact jm.1, by rw [e17, e16]; exact hT.2.2.2⟩
      have hF17 : F_X9_laysNodes S S17 := by rw [e17, e16]; exact hF
      have hT17 : TR S17 8 0 := by rw [e17, e16]; exact hT
      have nu := NB_nn (n := n9 V) (C := C9 V) (P := P9 V) (64 * u)
      have num := NB_mono (n := n9 V) (C := C9 V) (P := P9 V) (show 64 * u ≤ 512 by omega)
      unfold wp_X9_laysNodes_192
      refine ⟨fun n W => J9 W ∧ F_X9_laysNodes S W ∧ TR W 8 0 ∧ SM9 W V ∧ (b9g_nodeLevel W = b9g_nodeLevel V ∧ b9g_nodeLeaf W = b9g_nodeLeaf V ∧ b9g_nodeLeaves W = b9g_nodeLeaves V ∧ b9g_nodeMany W = b9g_nodeMany V ∧ b9g_levelMany W = b9g_levelMany V) ∧ (b9g_beginning W = b9g_beginning V ∧ b9g_common W = b9g_common V ∧ b9g_areNodesLaid W = b9g_areNodesLaid V ∧ b9g_isLaid W = b9g_isLaid V ∧ b9g_laidFor W = b9g_laidFor V) ∧ b9g_upper W = r14 ∧ (b9g_upperNodes W).toInt ≤ NB (n9 V) (C9 V) (P9 V) (64 * u) ∧ n = ((b9g_nodeMany W).toInt - (b9g_upperNodes W).toInt).toNat, ⟨_, hJ17, hF17, hT17, by rw [e17, e16]; exact ⟨rfl, rfl, rfl⟩, by rw [e17, e16]; exact ⟨rfl, rfl, rfl, rfl, rfl⟩, by rw [e17, e16]; exact ⟨rfl, rfl, rfl, rfl, rfl⟩, by rw [e17, e16], by rw [e17]; exact nu, rfl⟩, ?_⟩
      rintro n W ⟨hJW, hFW, hTW, sW, ⟨d1, d2, d3, d4, d5⟩, ⟨d6, d7, d8, d9, d10⟩, eu, hle, hn⟩
      have jmW := J9g_nodeMany hJW
      have juW := J9g_upperNodes hJW
      obtain ⟨s1, s2, s3, s4⟩ := SM9_n sW
      have rW : R9 W := R9_same rV sW d6 d7
      have nW : N9 W := N9_same nV sW d1 d2 d3 d4
      have fin : (b9g_upperNodes W).toInt = NB (n9 V) (C9 V) (P9 V) (64 * u) → wp_X9_laysNodes_232 W Q := by
        intro heq
        unfold wp_X9_laysNodes_232
        refine sf_X9_laysItems hJW hTW (fun u2 hJu hf hres => hq _ hJu ⟨(hf.1).trans (hFW.1), (hf.2.1).trans (hFW.2.1), (hf.2.2.1).trans (hFW.2.2.1), (hf.2.2.2.1).trans (hFW.2.2.2.1), (hf.2.2.2.2.1).trans (hFW.2.2.2.2.1), (hf.2.2.2.2.2.1).trans (hFW.2.2.2.2.2.1), (hf.2.2.2.2.2.2.1).trans (hFW.2.2.2.2.2.2.1), (hf.2.2.2.2.2.2.2.1).trans (hFW.2.2.2.2.2.2.2.1), (hf.2.2.2.2.2.2.2.2.1).trans (hFW.2.2.2.2.2.2.2.2.1), (hf.2.2.2.2.2.2.2.2.2.1).trans (hFW.2.2.2.2.2.2.2.2.2.1), (hf.2.2.2.2.2.2.2.2.2.2.2.2.2.2.2.2.2.2.2.2.2.1).trans (hFW.2.2.2.2.2.2.2.2.2.2.1), (hf.2.2.2.2.2.2.2.2.2.2.2.2.2.2.2.2.2.2.2.2.2.2.1).trans (hFW.2.2.2.2.2.2.2.2.2.2.2.1), (hf.2.2.2.2.2.2.2.2.2.2.2.2.2.2.2.2.2.2.2.2.2.2.2.1).trans (hFW.2.2.2.2.2.2.2.2.2.2.2.2.1), (hf.2.2.2.2.2.2.2.2.2.2.2.2.2.2.2.2.2.2.2.2.2.2.2.2.1).trans (hFW.2.2.2.2.2.2.2.2.2.2.2.2.2.1), (hf.2.2.2.2.2.2.2.2.2.2.2.2.2.2.2.2.2.2.2.2.2.2.2.2.2.1).trans (hFW.2.2.2.2.2.2.2.2.2.2.2.2.2.2.1), (hf.2.2.2.2.2.2.2.2.2.2.2.2.2.2.2.2.2.2.2.2.2.2.2.2.2.2.1).trans (hFW.2.2.2.2.2.2.2.2.2.2.2.2.2.2.2.1), (hf.2.2.2.2.2.2.2.2.2.2.2.2.2.2.2.2.2.2.2.2.2.2.2.2.2.2.2.1).trans (hFW.2.2.2.2.2.2.2.2.2.2.2.2.2.2.2.2.1), (hf.2.2.2.2.2.2.2.2.2.2.2.2.2.2.2.2.2.2.2.2.2.2.2.2.2.2.2.2.1).trans (hFW.2.2.2.2.2.2.2.2.2.2.2.2.2.2.2.2.2.1), (hf.2.2.2.2.2.2.2.2.2.2.2.2.2.2.2.2.2.2.2.2.2.2.2.2.2.2.2.2.2.1).trans (hFW.2.2.2.2.2.2.2.2.2.2.2.2.2.2.2.2.2.2.1), (hf.2.2.2.2.2.2.2.2.2.2.2.2.2.2.2.2.2.2.2.2.2.2.2.2.2.2.2.2.2.2.1).trans (hFW.2.2.2.2.2.2.2.2.2.2.2.2.2.2.2.2.2.2.2.1), (hf.2.2.2.2.2.2.2.2.2.2.2.2.2.2.2.2.2.2.2.2.2.2.2.2.2.2.2.2.2.2.2.1).trans (hFW.2.2.2.2.2.2.2.2.2.2.2.2.2.2.2.2.2.2.2.2.1), (hf.2.2.2.2.2.2.2.2.2.2.2.2.2.2.2.2.2.2.2.2.2.2.2.2.2.2.2.2.2.2.2.2.2.1).trans (hFW.2.2.2.2.2.2.2.2.2.2.2.2.2.2.2.2.2.2.2.2.2.1), (hf.2.2.2.2.2.2.2.2.2.2.2.2.2.2.2.2.2.2.2.2.2.2.2.2.2.2.2.2.2.2.2.2.2.2.1).trans (hFW.2.2.2.2.2.2.2.2.2.2.2.2.2.2.2.2.2.2.2.2.2.2.1), (hf.2.2.2.2.2.2.2.2.2.2.2.2.2.2.2.2.2.2.2.2.2.2.2.2.2.2.2.2.2.2.2.2.2.2.2.1).trans (hFW.2.2.2.2.2.2.2.2.2.2.2.2.2.2.2.2.2.2.2.2.2.2.2.1), (hf.2.2.2.2.2.2.2.2.2.2.2.2.2.2.2.2.2.2.2.2.2.2.2.2.2.2.2.2.2.2.2.2.2.2.2.2.1).trans (hFW.2.2.2.2.2.2.2.2.2.2.2.2.2.2.2.2.2.2.2.2.2.2.2.2.1), (hf.2.2.2.2.2.2.2.2.2.2.2.2.2.2.2.2.2.2.2.2.2.2.2.2.2.2.2.2.2.2.2.2.2.2.2.2.2.1).trans (hFW.2.2.2.2.2.2.2.2.2.2.2.2.2.2.2.2.2.2.2.2.2.2.2.2.2.1), (hf.2.2.2.2.2.2.2.2.2.2.2.2.2.2.2.2.2.2.2.2.2.2.2.2.2.2.2.2.2.2.2.2.2.2.2.2.2.2).trans (hFW.2.2.2.2.2.2.2.2.2.2.2.2.2.2.2.2.2.2.2.2.2.2.2.2.2.2)⟩ (fun _ _ => ?_))
        obtain ⟨i1, i2, i3⟩ := hres u rW nW (by omega) (by rw [eu]; exact hr) (by rw [s1, s2, s4]; exact heq)
        have sU : SM9 u2 W := ⟨hf.2.2.1, hf.2.2.2.1, hf.2.1⟩
        obtain ⟨t1, t2, t3, t4⟩ := SM9_n sU
        have fL : b9g_areNodesLaid u2 = b9g_areNodesLaid W := hf.2.2.2.2.2.2.2.2.2.2.2.2.2.2.2.2.2.2.2.2.1
        have fI : b9g_isLaid u2 = b9g_isLaid W := hf.2.2.2.2.2.2.2.2.2.2.2.2.1
        refine ⟨fun _ => ⟨⟨N9_same nW sU (hf.2.2.2.2.2.2.2.2.2.2.2.2.2.1) (hf.2.2.2.2.2.2.2.2.2.2.2.2.2.2.1) (hf.2.2.2.2.2.2.2.2.2.2.2.2.2.2.2.1) (hf.2.2.2.2.2.2.2.2.2.2.2.2.2.2.2.2.1), u, lv, ?_, by omega, ?_, ?_, hul, ?_, ?_, ?_, ?_, ?_⟩, fun ro k b1 _ _ => ?_⟩, by rw [fL, d8, hWV.2.2.2.1.1]; decide, by rw [fI, d9]; exact hWV.2.2.2.2⟩
        · rw [show b9g_levelMany u2 = b9g_levelMany W from hf.2.2.2.2.2.2.2.2.2.2.2.2.2.2.2.2.2.1, d5]
          exact elv
        · rw [t1, t2, t4, s1, s2, s4, ← elv]
          exact hlev
        · rw [show b9g_upper u2 = b9g_upper W from hf.2.2.2.2.2.2.2.2.2.2.2.2.2.2.2.2.2.2.1, eu]
          exact hr
        · rw [t1, t2, t4, s1, s2, s4, sU.2.2, sW.2.2]
          exact hU
        · rw [show b9g_upperNodes u2 = b9g_upperNodes W from hf.2.2.2.2.2.2.2.2.2.2.2.2.2.2.2.2.2.2.2.1, t1, t2, t4, s1, s2, s4]
          exact heq
        · rw [t1, t2, t4]
          exact i1
        · rw [t1, t2, t3, t4, sU.1]
          exact i2
        · rw [t1, t2]
          exact i3
        · exfalso
          rw [show b9g_laidFor u2 = b9g_laidFor W from hf.2.2.2.2.2.2.2.2.2.2.2.2.2.2.2.2.2.2.2.2.2.2.2.2.2.2.2.2.2.2.2.2.1, d10, hWV.2.2.2.1.2] at b1
          have : ((-1 : Int32)).toInt = -1 := rfl
          omega
      unfold wp_X9_laysNodes_192b
      refine ⟨fun c1 => fin ?_, fun c1 => ?_⟩
      · simp only [pn] at c1
        rw [d4] at c1
        omega
      simp only [pn] at c1
      obtain ⟨y, ey⟩ : ∃ y : Nat, (b9g_upperNodes W).toInt = (y : Int) := ⟨(b9g_upperNodes W).toInt.toNat, by omega⟩
      have ecl : (b9g_upperNodes W).toNatClampNeg = y := by
        show (b9g_upperNodes W).toInt.toNat = y
        omega
      rw [d4] at c1
      obtain ⟨l, s, e, ha⟩ := AT9_of rV nV (x := y) (by omega)
      obtain ⟨x5, l7, hs, hg, hx, f1, f2, f3⟩ := ha
      have sn := hs.1
      have g64 := G.1
      rw [ecl, d1, eu]
      refine ⟨pt_in (by omega) (by omega), fun c2 => fin ?_, fun c2 S3 e3 => ?_⟩
      · simp only [pn] at c2
        have mn := NB_mono (n := n9 V) (C := C9 V) (P := P9 V) (show 64 * u ≤ 64 * l + s by omega)
        omega
      simp only [pn] at c2
      have lt : NB (n9 V) (C9 V) (P9 V) (64 * l + s) < NB (n9 V) (C9 V) (P9 V) (64 * u) := CTP_lt (by omega) ((IsN_at (by omega)).mpr hs)
      have e1 : (b9g_upperNodes W + 1).toInt = (b9g_upperNodes W).toInt + 1 := by rw [pt_add (by rw [pl_1]; omega) (by rw [pl_1]; omega), pl_1]
      have a : (b9g_upperNodes S3).toInt = (b9g_upperNodes W).toInt + 1 := by rw [e3]; exact e1
      have b : (b9g_nodeMany S3).toInt = (b9g_nodeMany W).toInt := by rw [e3]
      have dm : (b9g_nodeMany W).toInt = (b9g_nodeMany V).toInt := by rw [d4]
      have hJ3 : J9 S3 := ⟨by rw [e3]; exact K9s_upperNodes hJW.1 ⟨by omega, by omega⟩, by omega, by rw [e3]; exact hJW.2.2⟩
      refine ⟨_, ?_, hJ3, by rw [e3]; exact hFW, by rw [e3]; exact hTW, by rw [e3]; exact sW, by rw [e3]; exact ⟨d1, d2, d3, d4, d5⟩, by rw [e3]; exact ⟨d6, d7, d8, d9, d10⟩, by rw [e3]; exact eu, by omega, rfl⟩
      omega
    have jm := K9g_nodeMany hK
    unfold wp_X9_laysNodes_34b
    refine ⟨fun _ => ⟨pt_in (by decide) (by decide), sf_X9_upperBy hK (fun r14 S16 e16 S17 e17 => ?_)⟩, fun c => absurd (Int32.le_refl _) c⟩
    have hK17 : K9 S17 := by rw [e17, e16]; exact K9s_upperNodes (K9s_upper hK) ⟨by decide, by decide⟩
    have hJ17 : J9 S17 := ⟨hK17, by
      have a : (b9g_upperNodes S17).toInt = 0 := by rw [e17]; rfl
      have b : b9g_nodeMany S17 = b9g_nodeMany V := by rw [e17, e16]
      rw [a, b]; exact jm.1, by rw [e17, e16]; exact hT.2.2.2⟩
    have hF17 : F_X9_laysNodes S S17 := by rw [e17, e16]; exact hF
    have hT17 : TR S17 8 0 := by rw [e17, e16]; exact hT
    unfold wp_X9_laysNodes_192
    refine ⟨fun n W => J9 W ∧ F_X9_laysNodes S W ∧ TR W 8 0 ∧ n = ((b9g_nodeMany W).toInt - (b9g_upperNodes W).toInt).toNat, ⟨_, hJ17, hF17, hT17, rfl⟩, ?_⟩
    rintro n W ⟨hJW, hFW, hTW, hn⟩
    have jmW := J9g_nodeMany hJW
    have juW := J9g_upperNodes hJW
    have fin : wp_X9_laysNodes_232 W Q := by
      unfold wp_X9_laysNodes_232
      exact sf_X9_laysItems hJW hTW (fun u2 hJu hf _ => hq _ hJu ⟨(hf.1).trans (hFW.1), (hf.2.1).trans (hFW.2.1), (hf.2.2.1).trans (hFW.2.2.1), (hf.2.2.2.1).trans (hFW.2.2.2.1), (hf.2.2.2.2.1).trans (hFW.2.2.2.2.1), (hf.2.2.2.2.2.1).trans (hFW.2.2.2.2.2.1), (hf.2.2.2.2.2.2.1).trans (hFW.2.2.2.2.2.2.1), (hf.2.2.2.2.2.2.2.1).trans (hFW.2.2.2.2.2.2.2.1), (hf.2.2.2.2.2.2.2.2.1).trans (hFW.2.2.2.2.2.2.2.2.1), (hf.2.2.2.2.2.2.2.2.2.1).trans (hFW.2.2.2.2.2.2.2.2.2.1), (hf.2.2.2.2.2.2.2.2.2.2.2.2.2.2.2.2.2.2.2.2.2.1).trans (hFW.2.2.2.2.2.2.2.2.2.2.1), (hf.2.2.2.2.2.2.2.2.2.2.2.2.2.2.2.2.2.2.2.2.2.2.1).trans (hFW.2.2.2.2.2.2.2.2.2.2.2.1), (hf.2.2.2.2.2.2.2.2.2.2.2.2.2.2.2.2.2.2.2.2.2.2.2.1).trans (hFW.2.2.2.2.2.2.2.2.2.2.2.2.1), (hf.2.2.2.2.2.2.2.2.2.2.2.2.2.2.2.2.2.2.2.2.2.2.2.2.1).trans (hFW.2.2.2.2.2.2.2.2.2.2.2.2.2.1), (hf.2.2.2.2.2.2.2.2.2.2.2.2.2.2.2.2.2.2.2.2.2.2.2.2.2.1).trans (hFW.2.2.2.2.2.2.2.2.2.2.2.2.2.2.1), (hf.2.2.2.2.2.2.2.2.2.2.2.2.2.2.2.2.2.2.2.2.2.2.2.2.2.2.1).trans (hFW.2.2.2.2.2.2.2.2.2.2.2.2.2.2.2.1), (hf.2.2.2.2.2.2.2.2.2.2.2.2.2.2.2.2.2.2.2.2.2.2.2.2.2.2.2.1).trans (hFW.2.2.2.2.2.2.2.2.2.2.2.2.2.2.2.2.1), (hf.2.2.2.2.2.2.2.2.2.2.2.2.2.2.2.2.2.2.2.2.2.2.2.2.2.2.2.2.1).trans (hFW.2.2.2.2.2.2.2.2.2.2.2.2.2.2.2.2.2.1), (hf.2.2.2.2.2.2.2.2.2.2.2.2.2.2.2.2.2.2.2.2.2.2.2.2.2.2.2.2.2.1).trans (hFW.2.2.2.2.2.2.2.2.2.2.2.2.2.2.2.2.2.2.1), (hf.2.2.2.2.2.2.2.2.2.2.2.2.2.2.2.2.2.2.2.2.2.2.2.2.2.2.2.2.2.2.1).trans (hFW.2.2.2.2.2.2.2.2.2.2.2.2.2.2.2.2.2.2.2.1), (hf.2.2.2.2.2.2.2.2.2.2.2.2.2.2.2.2.2.2.2.2.2.2.2.2.2.2.2.2.2.2.2.1).trans (hFW.2.2.2.2.2.2.2.2.2.2.2.2.2.2.2.2.2.2.2.2.1), (hf.2.2.2.2.2.2.2.2.2.2.2.2.2.2.2.2.2.2.2.2.2.2.2.2.2.2.2.2.2.2.2.2.2.1).trans (hFW.2.2.2.2.2.2.2.2.2.2.2.2.2.2.2.2.2.2.2.2.2.1), (hf.2.2.2.2.2.2.2.2.2.2.2.2.2.2.2.2.2.2.2.2.2.2.2.2.2.2.2.2.2.2.2.2.2.2.1).trans (hFW.2.2.2.2.2.2.2.2.2.2.2.2.2.2.2.2.2.2.2.2.2.2.1), (hf.2.2.2.2.2.2.2.2.2.2.2.2.2.2.2.2.2.2.2.2.2.2.2.2.2.2.2.2.2.2.2.2.2.2.2.1).trans (hFW.2.2.2.2.2.2.2.2.2.2.2.2.2.2.2.2.2.2.2.2.2.2.2.1), (hf.2.2.2.2.2.2.2.2.2.2.2.2.2.2.2.2.2.2.2.2.2.2.2.2.2.2.2.2.2.2.2.2.2.2.2.2.1).trans (hFW.2.2.2.2.2.2.2.2.2.2.2.2.2.2.2.2.2.2.2.2.2.2.2.2.1), (hf.2.2.2.2.2.2.2.2.2.2.2.2.2.2.2.2.2.2.2.2.2.2.2.2.2.2.2.2.2.2.2.2.2.2.2.2.2.1).trans (hFW.2.2.2.2.2.2.2.2.2.2.2.2.2.2.2.2.2.2.2.2.2.2.2.2.2.1), (hf.2.2.2.2.2.2.2.2.2.2.2.2.2.2.2.2.2.2.2.2.2.2.2.2.2.2.2.2.2.2.2.2.2.2.2.2.2.2).trans (hFW.2.2.2.2.2.2.2.2.2.2.2.2.2.2.2.2.2.2.2.2.2.2.2.2.2.2)⟩ (fun h => absurd h hP))
    unfold wp_X9_laysNodes_192b
    refine ⟨fun _ => fin, fun c1 => ?_⟩
    simp (disch := first | ((try simp (disch := first | ((try simp only [pn]) <;> omega) | fail) only [pn, pq]) <;> omega) | fail) only [pn, pq] at c1
    refine ⟨pt_in (by omega) (by omega), fun _ => fin, fun _ S3 e3 => ?_⟩
    have e1 : (b9g_upperNodes W + 1).toInt = (b9g_upperNodes W).toInt + 1 := by rw [pt_add (by rw [pl_1]; omega) (by rw [pl_1]; omega), pl_1]
    have a : (b9g_upperNodes S3).toInt = (b9g_upperNodes W).toInt + 1 := by rw [e3]; exact e1
    have b : (b9g_nodeMany S3).toInt = (b9g_nodeMany W).toInt := by rw [e3]
    have hJ3 : J9 S3 := ⟨by rw [e3]; exact K9s_upperNodes hJW.1 ⟨by omega, by omega⟩, by omega, by rw [e3]; exact hJW.2.2⟩
    refine ⟨_, ?_, hJ3, by rw [e3]; exact hFW, by rw [e3]; exact hTW, rfl⟩
    omega
  unfold wp_X9_laysNodes_34
  refine ⟨fun n x1 V => K9 V ∧ (F_X9_laysNodes S V ∧ NSW V) ∧ 0 ≤ x1.toInt ∧ x1.toInt ≤ 8 ∧ TR V x1.toInt 0 ∧ (b9g_nodeMany V).toInt ≤ 64 * x1.toInt ∧ (∀ x : Nat, (x : Int) + 1 = (b9g_nodeMany V).toInt → (b9g_nodeLevel V x).toInt < x1.toInt) ∧ n = (8 - x1.toInt).toNat, ⟨_, hK23, ⟨hF23, hW23⟩, by decide, by decide, hTR23, by rw [hm23]; decide, fun x hx => by rw [hm23] at hx; omega, rfl⟩, ?_⟩
  rintro n x1 V ⟨hK, ⟨hF, hW⟩, h0, h8, hT, hm, hl, hn⟩
  by_cases hx8 : x1.toInt = 8
  · have ex : x1 = 8 := Int32.toInt_inj.mp hx8
    subst ex
    have q := last V hK hF hT hW
    unfold wp_X9_laysNodes_34b at q ⊢
    exact ⟨q.1, fun c => absurd (Int32.le_refl _) c⟩
  unfold wp_X9_laysNodes_34b
  refine ⟨fun c => ?_, fun c => ?_⟩
  · simp (disch := first | ((try simp (disch := first | ((try simp only [pn]) <;> omega) | fail) only [pn, pq]) <;> omega) | fail) only [pn, pq] at c
    omega
  unfold wp_X9_laysNodes_44
  refine ⟨fun k y1 y2 y3 W => x1 = y1 ∧ K9 W ∧ (F_X9_laysNodes S W ∧ NSW W) ∧ 0 ≤ y3.toInt ∧ y3.toInt ≤ (b9g_now W 9).toInt ∧ TR W x1.toInt y3.toInt ∧ (b9g_nodeMany W).toInt ≤ 64 * x1.toInt + y3.toInt ∧ (LST W (y2.toInt) (x1.toInt) (y3.toInt)) ∧ k = ((b9g_now W 9).toInt - y3.toInt).toNat, ⟨_, rfl, hK, ⟨hF, hW⟩, by decide, (K9g_now hK).2.2.2.1.1, hT, by rw [pl_0]; omega, Or.inl ⟨rfl, hl⟩, rfl⟩, ?_⟩
  rintro k y1 y2 y3 W ⟨rfl, hKW, ⟨hFW, hWW⟩, g0, g1, hTW, hmW, hlst, hk⟩
  have jn := (K9g_now hKW).2.2.2.1
  have jm := K9g_nodeMany hKW
  have e3 := pt_clamp g0
  have hN := K9g_ND hKW
  have e9 : b9g_now W ((9 : Int32)).toNatClampNeg = b9g_now W 9 := rfl
  have e31 : (y3 + 1).toInt = y3.toInt + 1 := by rw [pt_add (by rw [pl_1]; omega) (by rw [pl_1]; omega), pl_1]
  unfold wp_X9_laysNodes_44b
  refine ⟨pt_in (by decide) (by decide), fun c1 => ?_, fun c1 => ?_⟩
  · simp (disch := first | ((try simp (disch := first | ((try simp only [pn]) <;> omega) | fail) only [pn, pq]) <;> omega) | fail) only [pn, pq] at c1
    have e11 : (x1 + 1).toInt = x1.toInt + 1 := by rw [pt_add (by rw [pl_1]; omega) (by rw [pl_1]; omega), pl_1]
    refine ⟨_, ?_, hKW, ⟨hFW, hWW⟩, by omega, by omega, ⟨hTW.1, ?_, hTW.2.2⟩, by omega, ?_, rfl⟩
    · omega
    · intro l i q0 q1 q2 q3
      exact hTW.2.1 l i q0 q1 q2 (by omega)
    · intro x hx
      rcases hlst with ⟨_, h⟩ | ⟨z, z1, z2, _⟩
      · have := h x hx
        omega
      · have : x = z := by omega
        subst this
        omega
  · simp (disch := first | ((try simp (disch := first | ((try simp only [pn]) <;> omega) | fail) only [pn, pq]) <;> omega) | fail) only [pn, pq] at c1
    have same : ∀ (b : Int32), (LST W (b.toInt) (x1.toInt) ((y3.toInt + 1))) → (∀ l : Int, 0 ≤ l → l < (b9g_beginning W y3.toNatClampNeg).toInt → l = x1.toInt → ∃ y : Nat, (y : Int) < (b9g_nodeMany W).toInt ∧ (b9g_nodeLevel W y).toInt = l ∧ (b9g_nodeLeaf W y).toInt ≤ y3.toNatClampNeg ∧ (y3.toNatClampNeg : Int) < (b9g_nodeLeaf W y).toInt + (b9g_nodeLeaves W y).toInt) → wp_X9_laysNodes_158 W x1 b y3 Q (fun x1_1 S_1 => ∃ n2 : Nat, n2 < n ∧ K9 S_1 ∧ (F_X9_laysNodes S S_1 ∧ NSW S_1) ∧ 0 ≤ x1_1.toInt ∧ x1_1.toInt ≤ 8 ∧ TR S_1 x1_1.toInt 0 ∧ (b9g_nodeMany S_1).toInt ≤ 64 * x1_1.toInt ∧ (∀ x : Nat, (x : Int) + 1 = (b9g_nodeMany S_1).toInt → (b9g_nodeLevel S_1 x).toInt < x1_1.toInt) ∧ n2 = (8 - x1_1.toInt).toNat) (fun z1 z2 z3 Z => ∃ n2 : Nat, n2 < k ∧ x1 = z1 ∧ K9 Z ∧ (F_X9_laysNodes S Z ∧ NSW Z) ∧ 0 ≤ z3.toInt ∧ z3.toInt ≤ (b9g_now Z 9).toInt ∧ TR Z x1.toInt z3.toInt ∧ (b9g_nodeMany Z).toInt ≤ 64 * x1.toInt + z3.toInt ∧ (LST Z (z2.toInt) (x1.toInt) (z3.toInt)) ∧ n2 = ((b9g_now Z 9).toInt - z3.toInt).toNat) := by
      intro b hb hnew
      unfold wp_X9_laysNodes_158
      refine ⟨_, ?_, rfl, hKW, ⟨hFW, hWW⟩, by omega, by omega, ⟨hTW.1, ?_, hTW.2.2⟩, by omega, ?_, rfl⟩
      · omega
      · intro l i q0 q1 q2 q3
        by_cases ei : i = y3.toNatClampNeg ∧ l = x1.toInt
        · obtain ⟨ei1, ei2⟩ := ei
          subst ei1
          exact hnew l q0 q2 ei2
        · exact hTW.2.1 l i q0 q1 q2 (by omega)
      · rw [e31]
        exact hb
    refine ⟨pt_in (by omega) (by omega), fun c2 => ?_, fun c2 => ⟨fun c3 => ?_, fun c3 => ?_⟩⟩
    · simp (disch := first | ((try simp (disch := first | ((try simp only [pn]) <;> omega) | fail) only [pn, pq]) <;> omega) | fail) only [pn, pq] at c2
      refine same y2 ?_ (fun l q0 q1 q2 => by omega)
      rcases hlst with h | ⟨z, z1, z2, z3, z4, z5⟩
      · exact Or.inl h
      · exact Or.inr ⟨z, z1, z2, z3, by omega, z5⟩
    · simp (disch := first | ((try simp (disch := first | ((try simp only [pn]) <;> omega) | fail) only [pn, pq]) <;> omega) | fail) only [pn, pq] at c2 c3
      refine ⟨pt_in (by omega) (by omega), ?_⟩
      intro S4 e4
      have hb4 : b9g_beginning S4 = b9g_beginning W := by rw [e4]
      have hk4 : b9g_keys S4 = b9g_keys W := by rw [e4]
      have hm4 : b9g_nodeMany S4 = b9g_nodeMany W := by rw [e4]
      have hK4 : K9 S4 := by
        rw [e4]
        refine K9s_nodeLevel hKW (fun x hx => ?_)
        have a := hN x hx
        have em := pt_clamp jm.1
        have u1 : upd (b9g_nodeLevel W) (b9g_nodeMany W).toNatClampNeg x1 x = b9g_nodeLevel W x := by unfold upd; rw [if_neg (by omega)]
        rw [u1]
        refine ⟨a.1, fun h2 => ?_⟩
        have u2 : upd (b9g_nodeLevel W) (b9g_nodeMany W).toNatClampNeg x1 (x + 1) = b9g_nodeLevel W (x + 1) := by unfold upd; rw [if_neg (by omega)]
        rw [u2]
        exact a.2 h2
      have em := pt_clamp jm.1
      refine sf_X9_firstLike hK4 (by omega) (by omega) (fun r5 f0 f1 f2 f3 => ?_)
      rw [hb4, hk4] at f2 f3
      rw [hm4]
      refine ⟨pt_in (by omega) (by omega), ?_⟩
      intro S7 e7
      have hb7 : b9g_beginning S7 = b9g_beginning W := by rw [e7, e4]
      have hk7 : b9g_keys S7 = b9g_keys W := by rw [e7, e4]
      have hn7 : b9g_now S7 = b9g_now W := by rw [e7, e4]
      have hm7 : b9g_nodeMany S7 = b9g_nodeMany W := by rw [e7, e4]
      have hL7 : b9g_nodeLevel S7 = upd (b9g_nodeLevel W) (b9g_nodeMany W).toNatClampNeg x1 := by rw [e7, e4]
      have hF7 : b9g_nodeLeaf S7 = upd (b9g_nodeLeaf W) (b9g_nodeMany W).toNatClampNeg r5 := by rw [e7, e4]
      have hlf7 : b9g_nodeLeaf S7 (b9g_nodeMany W).toNatClampNeg = r5 := by rw [hF7]; unfold upd; rw [if_pos rfl]
      have hK7 : K9 S7 := by
        have hN4 := K9g_ND hK4
        rw [hm4] at hN4
        rw [e7]
        refine K9s_nodeLeaf hK4 (fun x hx => ?_)
        rw [hm4] at hx
        have a := hN4 x hx
        have u1 : upd (b9g_nodeLeaf S4) (b9g_nodeMany W).toNatClampNeg r5 x = b9g_nodeLeaf S4 x := by unfold upd; rw [if_neg (by omega)]
        rw [hm4, u1]
        refine ⟨a.1, fun h2 => ?_⟩
        have u2 : upd (b9g_nodeLeaf S4) (b9g_nodeMany W).toNatClampNeg r5 (x + 1) = b9g_nodeLeaf S4 (x + 1) := by unfold upd; rw [if_neg (by omega)]
        rw [u2]
        exact a.2 h2
      rw [hm7, hlf7]
      refine ⟨pt_in (by omega) (by omega), ?_⟩
      refine sf_X9_manyLike hK7 f0 (by rw [hn7]; omega) (by omega) (fun r8 m0 m1 m2 m3 => ?_)
      rw [hb7, hk7] at m2 m3
      rw [hn7] at m1 m3
      refine ⟨pt_in (by omega) (by omega), ?_⟩
      intro S10 e10
      have hb10 : b9g_beginning S10 = b9g_beginning W := by rw [e10, e7, e4]
      have hk10 : b9g_keys S10 = b9g_keys W := by rw [e10, e7, e4]
      have hn10 : b9g_now S10 = b9g_now W := by rw [e10, e7, e4]
      have hm10 : b9g_nodeMany S10 = b9g_nodeMany W := by rw [e10]; exact hm7
      have hL10 : b9g_nodeLevel S10 = upd (b9g_nodeLevel W) (b9g_nodeMany W).toNatClampNeg x1 := by rw [e10]; exact hL7
      have hF10 : b9g_nodeLeaf S10 = upd (b9g_nodeLeaf W) (b9g_nodeMany W).toNatClampNeg r5 := by rw [e10]; exact hF7
      have hS10 : b9g_nodeLeaves S10 = upd (b9g_nodeLeaves W) (b9g_nodeMany W).toNatClampNeg r8 := by rw [e10, e7, e4]
      have hlf10 : b9g_nodeLeaf S10 (b9g_nodeMany W).toNatClampNeg = r5 := by rw [hF10]; unfold upd; rw [if_pos rfl]
      have hls10 : b9g_nodeLeaves S10 (b9g_nodeMany W).toNatClampNeg = r8 := by rw [hS10]; unfold upd; rw [if_pos rfl]
      have hlv10 : b9g_nodeLevel S10 (b9g_nodeMany W).toNatClampNeg = x1 := by rw [hL10]; unfold upd; rw [if_pos rfl]
      have hK10 : K9 S10 := by
        have hN7 := K9g_ND hK7
        rw [hm7] at hN7
        rw [e10]
        refine K9s_nodeLeaves hK7 (fun x hx => ?_)
        rw [hm7] at hx
        have a := hN7 x hx
        have u1 : upd (b9g_nodeLeaves S7) (b9g_nodeMany W).toNatClampNeg r8 x = b9g_nodeLeaves S7 x := by unfold upd; rw [if_neg (by omega)]
        rw [hm7, u1]
        exact ⟨a.1, a.2⟩
      rw [hm10, hlf10, hls10]
      refine ⟨pt_in (by omega) (by omega), pt_in (by omega) (by omega), ?_⟩
      intro v11 e11 S12 e12 S13 e13
      have ev : v11.toInt = r5.toInt + r8.toInt := by rw [e11]; exact pt_add (by omega) (by omega)
      have er5 := pt_clamp f0
      -- the leaf itself is of the node
      have hin : (y3.toNatClampNeg : Int) < r5.toInt + r8.toInt := by
        refine node_new (A := AK (b9g_keys W) x1) (beg := fun j => (b9g_beginning W j).toInt) (L := x1.toInt) (n := (b9g_now W 9).toInt) AK_refl AK_symm AK_trans (by omega) (by show x1.toInt < _; omega) f0 (by omega) ?_ m0 ?_
        · intro j q1 q2
          exact f2 j q1 (by omega)
        · intro e q1 q2 q3
          exact m3 e q1 q2 q3
      have hlink : ∀ x : Nat, (x : Int) + 1 = (b9g_nodeMany W).toInt → 64 * (b9g_nodeLevel W x).toInt + (b9g_nodeLeaf W x).toInt + (b9g_nodeLeaves W x).toInt ≤ 64 * x1.toInt + r5.toInt := by
        intro x hx
        have ax := (hN x (by omega)).1
        rcases hlst with ⟨_, h⟩ | ⟨z, z1, z2, z3, z4, z5⟩
        · have := h x hx
          omega
        · have exz : x = z := by omega
          subst exz
          have elv : b9g_nodeLevel W x = x1 := Int32.toInt_inj.mp z2
          have hap : (b9g_nodeLeaf W x).toInt + (b9g_nodeLeaves W x).toInt ≤ r5.toInt := by
            refine node_apart (A := AK (b9g_keys W) x1) (beg := fun j => (b9g_beginning W j).toInt) (L := x1.toInt) (n := (b9g_now W 9).toInt) (i := y3.toNatClampNeg) AK_symm AK_trans AK_refl (by omega) (by show x1.toInt < _; omega) f0 ?_ ax.2.2.1 ax.2.2.2.2.1 ?_ ?_ (by omega)
            · intro j q1 q2
              exact f2 j q1 (by omega)
            · intro j q1 q2
              have q := ((hTW.1 x (by omega)).1 j q1 q2).2
              rw [elv] at q
              exact q
            · intro e q1 q2 q3
              have q := z5 e (by omega) q2 q3
              rw [elv] at q
              exact q
          omega
      have hold : ∀ x : Nat, (x : Int) < (b9g_nodeMany W).toInt → b9g_nodeLevel S10 x = b9g_nodeLevel W x ∧ b9g_nodeLeaf S10 x = b9g_nodeLeaf W x ∧ b9g_nodeLeaves S10 x = b9g_nodeLeaves W x := by
        intro x hx
        rw [hL10, hF10, hS10]
        unfold upd
        rw [if_neg (by omega), if_neg (by omega), if_neg (by omega)]
        exact ⟨rfl, rfl, rfl⟩
      have em2 : (b9g_nodeMany W + 1).toInt = (b9g_nodeMany W).toInt + 1 := by rw [pt_add (by rw [pl_1]; omega) (by rw [pl_1]; omega), pl_1]
      have hND : ND (b9g_nodeLevel S10) (b9g_nodeLeaf S10) (b9g_nodeLeaves S10) (b9g_nodeMany W + 1) := ND_push hN jm.1 em2 hold (by rw [hlv10]) (by rw [hlf10]) (by rw [hls10]) ⟨by omega, by omega⟩ ⟨by omega, by omega⟩ ⟨by omega, by omega⟩ hlink
      have hK13 : K9 S13 := by
        rw [e13, e12]
        have e11' : (x1 + 1).toInt = x1.toInt + 1 := by rw [pt_add (by rw [pl_1]; omega) (by rw [pl_1]; omega), pl_1]
        exact K9s_levelMany (K9s_nodeMany hK10 ⟨by omega, by omega⟩ hND) ⟨by omega, by omega⟩
      have hF13 : F_X9_laysNodes S S13 := by rw [e13, e12, e10, e7, e4]; exact hFW
      have hm13 : b9g_nodeMany S13 = b9g_nodeMany W + 1 := by rw [e13, e12]
      have hL13 : b9g_nodeLevel S13 = b9g_nodeLevel S10 := by rw [e13, e12]
      have hF13b : b9g_nodeLeaf S13 = b9g_nodeLeaf S10 := by rw [e13, e12]
      have hS13 : b9g_nodeLeaves S13 = b9g_nodeLeaves S10 := by rw [e13, e12]
      have hb13 : b9g_beginning S13 = b9g_beginning W := by rw [e13, e12]; exact hb10
      have hk13 : b9g_keys S13 = b9g_keys W := by rw [e13, e12]; exact hk10
      have hn13 : b9g_now S13 = b9g_now W := by rw [e13, e12]; exact hn10
      have hi13 : b9g_isLaid S13 = b9g_isLaid W := by rw [e13, e12, e10, e7, e4]
      have hc13 : b9g_common S13 = b9g_common W := by rw [e13, e12, e10, e7, e4]
      have hl13 : b9g_lengths S13 = b9g_lengths W := by rw [e13, e12, e10, e7, e4]
      have hT13 : TR S13 x1.toInt (y3.toInt + 1) := by
        have LD13 : LD (b9g_isLaid S13) (b9g_common S13) (b9g_beginning W) (b9g_keys W) (b9g_lengths S13) (b9g_now W 9) := by
          rw [hi13, hc13, hl13]
          exact hTW.2.2.2
        unfold TR
        rw [hm13, hL13, hF13b, hS13, hb13, hk13, hn13]
        refine ⟨NM_push hTW.1 jm.1 em2 hold hlv10 hlf10 hls10 ?_ ?_, NC_push hTW.2.1 jm.1 em2 hold (by rw [hlv10]) rfl ⟨by rw [hlf10]; omega, by rw [hlf10, hls10]; omega⟩, NE_push hTW.2.2.1 jm.1 em2 (fun x hx => (hold x hx).2) (by rw [hlf10, hls10]; exact m1), LD13⟩
        · intro j q1 q2
          exact m2 j q1 q2
        · intro j q1 q2 q3
          refine f3 j q1 q2 ?_
          by_cases ej : j + 1 = y3.toNatClampNeg
          · rw [← ej]; exact q3
          · exact AK_trans q3 (f2 (j + 1) (by omega) (by omega)).2
      unfold wp_X9_laysNodes_158
      have e131 : (x1 + 1).toInt = x1.toInt + 1 := by rw [pt_add (by rw [pl_1]; omega) (by rw [pl_1]; omega), pl_1]
      have hW13 : NSW S13 := by
        refine ⟨?_, fun z => ?_, fun x hx => ?_, ?_, ?_⟩
        · rw [hm13, hL13, hF13b, hS13, hb13]
          exact NSD_push hWW.1 jm.1 em2 hold ⟨y3.toNatClampNeg, by rw [hlf10]; omega, by rw [hlf10, hls10]; exact hin, by rw [hlv10]; omega⟩
        · rw [hm13, em2] at z
          omega
        · rw [hm13, em2] at hx
          rw [hL13, show x = (b9g_nodeMany W).toNatClampNeg by omega, hlv10, show b9g_levelMany S13 = x1 + 1 by rw [e13]]
          exact e131
        · rw [show b9g_areNodesLaid S13 = b9g_areNodesLaid W by rw [e13, e12, e10, e7, e4], show b9g_laidFor S13 = b9g_laidFor W by rw [e13, e12, e10, e7, e4]]
          exact hWW.2.2.2.1
        · rw [hi13]
          exact hWW.2.2.2.2
      refine ⟨_, ?_, rfl, hK13, ⟨hF13, hW13⟩, by omega, by rw [hn13]; omega, by rw [e31]; exact hT13, by rw [hm13, em2]; omega, ?_, rfl⟩
      · rw [hn13]
        omega
      · refine Or.inr ⟨(b9g_nodeMany W).toNatClampNeg, by rw [hm13, em2]; omega, by rw [hL13, hlv10], by rw [hF13b, hS13, hlf10, hls10]; exact ev, by rw [hF13b, hlf10]; omega, ?_⟩
        rw [hn13, hb13, hk13, hL13, hF13b, hlf10, hlv10]
        intro e q1 q2 q3
        exact m3 e (by omega) q2 q3
    · simp (disch := first | ((try simp (disch := first | ((try simp only [pn]) <;> omega) | fail) only [pn, pq]) <;> omega) | fail) only [pn, pq] at c3
      rcases hlst with ⟨h, _⟩ | ⟨z, z1, z2, z3, z4, z5⟩
      · omega
      · refine same y2 (Or.inr ⟨z, z1, z2, z3, by omega, z5⟩) (fun l q0 q1 q2 => ⟨z, by omega, by omega, by omega, by omega⟩)
set_option maxRecDepth 20000 in
set_option maxHeartbeats 8000000 in
theorem sf_X9_kidMany {S : bT9} (hJ : K9 S) {a1 : Int32} {Q : Int32 → Prop} (hp0 : 0 ≤ a1.toInt) (hp1 : a1.toInt < (b9g_nodeMany S).toInt) (hq : ∀ r : Int32, (0 ≤ r.toInt) → (r.toInt ≤ (b9g_nodeLeaves S a1.toNatClampNeg).toInt) → (r.toInt ≤ 64) → Q r) : wp_X9_kidMany S a1 Q := by
  unfold wp_X9_kidMany
  have jf1 := K9g_nodeMany hJ
  have jf2 : (-4 ≤ ((b9g_now S) 1).toInt ∧ ((b9g_now S) 1).toInt ≤ 4) ∧ (-3 ≤ ((b9g_now S) 4).toInt ∧ ((b9g_now S) 4).toInt ≤ 252) ∧ (0 ≤ ((b9g_now S) 8).toInt ∧ ((b9g_now S) 8).toInt ≤ 64) ∧ (0 ≤ ((b9g_now S) 9).toInt ∧ ((b9g_now S) 9).toInt ≤ 64) ∧ (0 ≤ ((b9g_now S) 10).toInt ∧ ((b9g_now S) 10).toInt ≤ 16) ∧ (0 ≤ ((b9g_now S) 12).toInt ∧ ((b9g_now S) 12).toInt ≤ 8) := K9g_now hJ
  have rga1 := pt_rg a1
  have jx := ND_at (K9g_ND hJ) hp0 hp1
  refine ⟨pt_in (by (try simp (disch := first | ((try simp (disch := first | ((try simp only [pn]) <;> omega) | fail) only [pn, pq]) <;> omega) | fail) only [pn, pq]) <;> (intros; (try simp (disch := first | ((try simp (disch := first | ((try simp only [pn]) <;> omega) | fail) only [pn, pq]) <;> omega) | fail) only [pn, pq]) <;> omega)) (by (try simp (disch := first | ((try simp (disch := first | ((try simp only [pn]) <;> omega) | fail) only [pn, pq]) <;> omega) | fail) only [pn, pq]) <;> (intros; (try simp (disch := first | ((try simp (disch := first | ((try simp only [pn]) <;> omega) | fail) only [pn, pq]) <;> omega) | fail) only [pn, pq]) <;> omega)), ?_⟩
  have jr3 := ND_at (K9g_ND hJ) (x := a1) (by (try simp (disch := first | ((try simp (disch := first | ((try simp only [pn]) <;> omega) | fail) only [pn, pq]) <;> omega) | fail) only [pn, pq]) <;> (intros; (try simp (disch := first | ((try simp (disch := first | ((try simp only [pn]) <;> omega) | fail) only [pn, pq]) <;> omega) | fail) only [pn, pq]) <;> omega)) (by (try simp (disch := first | ((try simp (disch := first | ((try simp only [pn]) <;> omega) | fail) only [pn, pq]) <;> omega) | fail) only [pn, pq]) <;> (intros; (try simp (disch := first | ((try simp (disch := first | ((try simp only [pn]) <;> omega) | fail) only [pn, pq]) <;> omega) | fail) only [pn, pq]) <;> omega))
  try simp (disch := first | ((try simp (disch := first | ((try simp only [pn]) <;> omega) | fail) only [pn, pq]) <;> omega) | fail) only [pn, pq] at jr3
  refine ⟨fun n x1q1 x2q1 x3q1 => (x1q1 = a1) ∧ ((b9g_nodeLeaf S (x1q1).toNatClampNeg).toInt ≤ (x3q1).toInt) ∧ ((x3q1).toInt ≤ (b9g_nodeLeaf S (x1q1).toNatClampNeg).toInt + (b9g_nodeLeaves S (x1q1).toNatClampNeg).toInt) ∧ (0 ≤ (x2q1).toInt) ∧ ((x2q1).toInt ≤ (x3q1).toInt - (b9g_nodeLeaf S (x1q1).toNatClampNeg).toInt) ∧ n = ((b9g_nodeLeaf S (x1q1).toNatClampNeg).toInt + (b9g_nodeLeaves S (x1q1).toNatClampNeg).toInt - (x3q1).toInt).toNat, ⟨_, rfl, (by (try simp (disch := first | ((try simp (disch := first | ((try simp only [pn]) <;> omega) | fail) only [pn, pq]) <;> omega) | fail) only [pn, pq]) <;> (intros; (try simp (disch := first | ((try simp (disch := first | ((try simp only [pn]) <;> omega) | fail) only [pn, pq]) <;> omega) | fail) only [pn, pq]) <;> omega)), (by (try simp (disch := first | ((try simp (disch := first | ((try simp only [pn]) <;> omega) | fail) only [pn, pq]) <;> omega) | fail) only [pn, pq]) <;> (intros; (try simp (disch := first | ((try simp (disch := first | ((try simp only [pn]) <;> omega) | fail) only [pn, pq]) <;> omega) | fail) only [pn, pq]) <;> omega)), (by (try simp (disch := first | ((try simp (disch := first | ((try simp only [pn]) <;> omega) | fail) only [pn, pq]) <;> omega) | fail) only [pn, pq]) <;> (intros; (try simp (disch := first | ((try simp (disch := first | ((try simp only [pn]) <;> omega) | fail) only [pn, pq]) <;> omega) | fail) only [pn, pq]) <;> omega)), (by (try simp (disch := first | ((try simp (disch := first | ((try simp only [pn]) <;> omega) | fail) only [pn, pq]) <;> omega) | fail) only [pn, pq]) <;> (intros; (try simp (disch := first | ((try simp (disch := first | ((try simp only [pn]) <;> omega) | fail) only [pn, pq]) <;> omega) | fail) only [pn, pq]) <;> omega)), rfl⟩, ?_⟩
  rintro n2 x1q1 x2q1 x3q1 ⟨hkq1_0, hiq1_0, hiq1_1, hiq1_2, hiq1_3, hn2⟩
  subst hkq1_0
  have rgx1q1 := pt_rg x1q1
  have rgx2q1 := pt_rg x2q1
  have rgx3q1 := pt_rg x3q1
  unfold wp_X9_kidMany_9b
  refine sf_X9_lastOf hJ (by (try simp (disch := first | ((try simp (disch := first | ((try simp only [pn]) <;> omega) | fail) only [pn, pq]) <;> omega) | fail) only [pn, pq]) <;> (intros; (try simp (disch := first | ((try simp (disch := first | ((try simp only [pn]) <;> omega) | fail) only [pn, pq]) <;> omega) | fail) only [pn, pq]) <;> omega)) (by (try simp (disch := first | ((try simp (disch := first | ((try simp only [pn]) <;> omega) | fail) only [pn, pq]) <;> omega) | fail) only [pn, pq]) <;> (intros; (try simp (disch := first | ((try simp (disch := first | ((try simp only [pn]) <;> omega) | fail) only [pn, pq]) <;> omega) | fail) only [pn, pq]) <;> omega)) (fun r3 hr3_0 hr3_1 => ?_)
  have rgr3 := pt_rg r3
  try simp (disch := first | ((try simp (disch := first | ((try simp only [pn]) <;> omega) | fail) only [pn, pq]) <;> omega) | fail) only [pn, pq] at hr3_0
  try simp (disch := first | ((try simp (disch := first | ((try simp only [pn]) <;> omega) | fail) only [pn, pq]) <;> omega) | fail) only [pn, pq] at hr3_1
  refine ⟨fun c5 => ?_, fun c5 => ?_⟩
  · try simp (disch := first | ((try simp (disch := first | ((try simp only [pn]) <;> omega) | fail) only [pn, pq]) <;> omega) | fail) only [pn, pq] at c5
    exact hq _ (by (try simp (disch := first | ((try simp (disch := first | ((try simp only [pn]) <;> omega) | fail) only [pn, pq]) <;> omega) | fail) only [pn, pq]) <;> (intros; (try simp (disch := first | ((try simp (disch := first | ((try simp only [pn]) <;> omega) | fail) only [pn, pq]) <;> omega) | fail) only [pn, pq]) <;> omega)) (by (try simp (disch := first | ((try simp (disch := first | ((try simp only [pn]) <;> omega) | fail) only [pn, pq]) <;> omega) | fail) only [pn, pq]) <;> (intros; (try simp (disch := first | ((try simp (disch := first | ((try simp only [pn]) <;> omega) | fail) only [pn, pq]) <;> omega) | fail) only [pn, pq]) <;> omega)) (by (try simp (disch := first | ((try simp (disch := first | ((try simp only [pn]) <;> omega) | fail) only [pn, pq]) <;> omega) | fail) only [pn, pq]) <;> (intros; (try simp (disch := first | ((try simp (disch := first | ((try simp only [pn]) <;> omega) | fail) only [pn, pq]) <;> omega) | fail) only [pn, pq]) <;> omega))
  · try simp (disch := first | ((try simp (disch := first | ((try simp only [pn]) <;> omega) | fail) only [pn, pq]) <;> omega) | fail) only [pn, pq] at c5
    refine sf_X9_isBranch hJ (by (try simp (disch := first | ((try simp (disch := first | ((try simp only [pn]) <;> omega) | fail) only [pn, pq]) <;> omega) | fail) only [pn, pq]) <;> (intros; (try simp (disch := first | ((try simp (disch := first | ((try simp only [pn]) <;> omega) | fail) only [pn, pq]) <;> omega) | fail) only [pn, pq]) <;> omega)) (by (try simp (disch := first | ((try simp (disch := first | ((try simp only [pn]) <;> omega) | fail) only [pn, pq]) <;> omega) | fail) only [pn, pq]) <;> (intros; (try simp (disch := first | ((try simp (disch := first | ((try simp only [pn]) <;> omega) | fail) only [pn, pq]) <;> omega) | fail) only [pn, pq]) <;> omega)) (by (try simp (disch := first | ((try simp (disch := first | ((try simp only [pn]) <;> omega) | fail) only [pn, pq]) <;> omega) | fail) only [pn, pq]) <;> (intros; (try simp (disch := first | ((try simp (disch := first | ((try simp only [pn]) <;> omega) | fail) only [pn, pq]) <;> omega) | fail) only [pn, pq]) <;> omega)) (by (try simp (disch := first | ((try simp (disch := first | ((try simp only [pn]) <;> omega) | fail) only [pn, pq]) <;> omega) | fail) only [pn, pq]) <;> (intros; (try simp (disch := first | ((try simp (disch := first | ((try simp only [pn]) <;> omega) | fail) only [pn, pq]) <;> omega) | fail) only [pn, pq]) <;> omega)) (fun r6 hzr6 hr6_0 => ?_)
    try simp (disch := first | ((try simp (disch := first | ((try simp only [pn]) <;> omega) | fail) only [pn, pq]) <;> omega) | fail) only [pn, pq] at hr6_0
    refine ⟨fun c8 => ?_, fun c8 => ?_⟩
    · try simp (disch := first | ((try simp (disch := first | ((try simp only [pn]) <;> omega) | fail) only [pn, pq]) <;> omega) | fail) only [pn, pq] at c8
      unfold wp_X9_kidMany_41
      refine ⟨_, ?_, ?_, ?_, ?_, ?_, ?_, rfl⟩
      · (try simp (disch := first | ((try simp (disch := first | ((try simp only [pn]) <;> omega) | fail) only [pn, pq]) <;> omega) | fail) only [pn, pq]) <;> (intros; (try simp (disch := first | ((try simp (disch := first | ((try simp only [pn]) <;> omega) | fail) only [pn, pq]) <;> omega) | fail) only [pn, pq]) <;> omega)
      · first | rfl | assumption
      · (try simp (disch := first | ((try simp (disch := first | ((try simp only [pn]) <;> omega) | fail) only [pn, pq]) <;> omega) | fail) only [pn, pq]) <;> (intros; (try simp (disch := first | ((try simp (disch := first | ((try simp only [pn]) <;> omega) | fail) only [pn, pq]) <;> omega) | fail) only [pn, pq]) <;> omega)
      · (try simp (disch := first | ((try simp (disch := first | ((try simp only [pn]) <;> omega) | fail) only [pn, pq]) <;> omega) | fail) only [pn, pq]) <;> (intros; (try simp (disch := first | ((try simp (disch := first | ((try simp only [pn]) <;> omega) | fail) only [pn, pq]) <;> omega) | fail) only [pn, pq]) <;> omega)
      · (try simp (disch := first | ((try simp (disch := first | ((try simp only [pn]) <;> omega) | fail) only [pn, pq]) <;> omega) | fail) only [pn, pq]) <;> (intros; (try simp (disch := first | ((try simp (disch := first | ((try simp only [pn]) <;> omega) | fail) only [pn, pq]) <;> omega) | fail) only [pn, pq]) <;> omega)
      · (try simp (disch := first | ((try simp (disch := first | ((try simp only [pn]) <;> omega) | fail) only [pn, pq]) <;> omega) | fail) only [pn, pq]) <;> (intros; (try simp (disch := first | ((try simp (disch := first | ((try simp only [pn]) <;> omega) | fail) only [pn, pq]) <;> omega) | fail) only [pn, pq]) <;> omega)
    · try simp (disch := first | ((try simp (disch := first | ((try simp only [pn]) <;> omega) | fail) only [pn, pq]) <;> omega) | fail) only [pn, pq] at c8
      refine sf_X9_childAt hJ (by (try simp (disch := first | ((try simp (disch := first | ((try simp only [pn]) <;> omega) | fail) only [pn, pq]) <;> omega) | fail) only [pn, pq]) <;> (intros; (try simp (disch := first | ((try simp (disch := first | ((try simp only [pn]) <;> omega) | fail) only [pn, pq]) <;> omega) | fail) only [pn, pq]) <;> omega)) (by (try simp (disch := first | ((try simp (disch := first | ((try simp only [pn]) <;> omega) | fail) only [pn, pq]) <;> omega) | fail) only [pn, pq]) <;> (intros; (try simp (disch := first | ((try simp (disch := first | ((try simp only [pn]) <;> omega) | fail) only [pn, pq]) <;> omega) | fail) only [pn, pq]) <;> omega)) (fun r9 hr9_0 => ?_)
      have rgr9 := pt_rg r9
      try simp (disch := first | ((try simp (disch := first | ((try simp only [pn]) <;> omega) | fail) only [pn, pq]) <;> omega) | fail) only [pn, pq] at hr9_0
      refine ⟨fun c11 => ?_, fun c11 => ?_⟩
      · try simp (disch := first | ((try simp (disch := first | ((try simp only [pn]) <;> omega) | fail) only [pn, pq]) <;> omega) | fail) only [pn, pq] at c11
        unfold wp_X9_kidMany_41
        refine ⟨_, ?_, ?_, ?_, ?_, ?_, ?_, rfl⟩
        · (try simp (disch := first | ((try simp (disch := first | ((try simp only [pn]) <;> omega) | fail) only [pn, pq]) <;> omega) | fail) only [pn, pq]) <;> (intros; (try simp (disch := first | ((try simp (disch := first | ((try simp only [pn]) <;> omega) | fail) only [pn, pq]) <;> omega) | fail) only [pn, pq]) <;> omega)
        · first | rfl | assumption
        · (try simp (disch := first | ((try simp (disch := first | ((try simp only [pn]) <;> omega) | fail) only [pn, pq]) <;> omega) | fail) only [pn, pq]) <;> (intros; (try simp (disch := first | ((try simp (disch := first | ((try simp only [pn]) <;> omega) | fail) only [pn, pq]) <;> omega) | fail) only [pn, pq]) <;> omega)
        · (try simp (disch := first | ((try simp (disch := first | ((try simp only [pn]) <;> omega) | fail) only [pn, pq]) <;> omega) | fail) only [pn, pq]) <;> (intros; (try simp (disch := first | ((try simp (disch := first | ((try simp only [pn]) <;> omega) | fail) only [pn, pq]) <;> omega) | fail) only [pn, pq]) <;> omega)
        · (try simp (disch := first | ((try simp (disch := first | ((try simp only [pn]) <;> omega) | fail) only [pn, pq]) <;> omega) | fail) only [pn, pq]) <;> (intros; (try simp (disch := first | ((try simp (disch := first | ((try simp only [pn]) <;> omega) | fail) only [pn, pq]) <;> omega) | fail) only [pn, pq]) <;> omega)
        · (try simp (disch := first | ((try simp (disch := first | ((try simp only [pn]) <;> omega) | fail) only [pn, pq]) <;> omega) | fail) only [pn, pq]) <;> (intros; (try simp (disch := first | ((try simp (disch := first | ((try simp only [pn]) <;> omega) | fail) only [pn, pq]) <;> omega) | fail) only [pn, pq]) <;> omega)
      · try simp (disch := first | ((try simp (disch := first | ((try simp only [pn]) <;> omega) | fail) only [pn, pq]) <;> omega) | fail) only [pn, pq] at c11
        unfold wp_X9_kidMany_41
        refine ⟨_, ?_, ?_, ?_, ?_, ?_, ?_, rfl⟩
        · (try simp (disch := first | ((try simp (disch := first | ((try simp only [pn]) <;> omega) | fail) only [pn, pq]) <;> omega) | fail) only [pn, pq]) <;> (intros; (try simp (disch := first | ((try simp (disch := first | ((try simp only [pn]) <;> omega) | fail) only [pn, pq]) <;> omega) | fail) only [pn, pq]) <;> omega)
        · first | rfl | assumption
        · (try simp (disch := first | ((try simp (disch := first | ((try simp only [pn]) <;> omega) | fail) only [pn, pq]) <;> omega) | fail) only [pn, pq]) <;> (intros; (try simp (disch := first | ((try simp (disch := first | ((try simp only [pn]) <;> omega) | fail) only [pn, pq]) <;> omega) | fail) only [pn, pq]) <;> omega)
        · (try simp (disch := first | ((try simp (disch := first | ((try simp only [pn]) <;> omega) | fail) only [pn, pq]) <;> omega) | fail) only [pn, pq]) <;> (intros; (try simp (disch := first | ((try simp (disch := first | ((try simp only [pn]) <;> omega) | fail) only [pn, pq]) <;> omega) | fail) only [pn, pq]) <;> omega)
        · (try simp (disch := first | ((try simp (disch := first | ((try simp only [pn]) <;> omega) | fail) only [pn, pq]) <;> omega) | fail) only [pn, pq]) <;> (intros; (try simp (disch := first | ((try simp (disch := first | ((try simp only [pn]) <;> omega) | fail) only [pn, pq]) <;> omega) | fail) only [pn, pq]) <;> omega)
        · (try simp (disch := first | ((try simp (disch := first | ((try simp only [pn]) <;> omega) | fail) only [pn, pq]) <;> omega) | fail) only [pn, pq]) <;> (intros; (try simp (disch := first | ((try simp (disch := first | ((try simp only [pn]) <;> omega) | fail) only [pn, pq]) <;> omega) | fail) only [pn, pq]) <;> omega)
def F_X9_nodes (S u : bT9) : Prop := (b9g_told u) = (b9g_told S) ∧ (b9g_now u) = (b9g_now S) ∧ (b9g_keys u) = (b9g_keys S) ∧ (b9g_lengths u) = (b9g_lengths S) ∧ (b9g_drawn u) = (b9g_drawn S) ∧ (b9g_drawnLength u) = (b9g_drawnLength S) ∧ (b9g_tape u) = (b9g_tape S) ∧ (b9g_taped u) = (b9g_taped S) ∧ (b9g_names u) = (b9g_names S) ∧ (b9g_chosen u) = (b9g_chosen S) ∧ (b9g_lowKey u) = (b9g_lowKey S) ∧ (b9g_highKey u) = (b9g_highKey S) ∧ (b9g_lowLength u) = (b9g_lowLength S) ∧ (b9g_highLength u) = (b9g_highLength S) ∧ (b9g_fromKey u) = (b9g_fromKey S) ∧ (b9g_toKey u) = (b9g_toKey S) ∧ (b9g_fromLength u) = (b9g_fromLength S) ∧ (b9g_toLength u) = (b9g_toLength S) ∧ (b9g_ones u) = (b9g_ones S) ∧ (b9g_oneMany u) = (b9g_oneMany S) ∧ (b9g_rowLong u) = (b9g_rowLong S) ∧ (b9g_signs u) = (b9g_signs S) ∧ (b9g_signMany u) = (b9g_signMany S) ∧ (b9g_hasImage u) = (b9g_hasImage S) ∧ (b9g_images u) = (b9g_images S) ∧ (b9g_keyImages u) = (b9g_keyImages S) ∧ (b9g_lengthImages u) = (b9g_lengthImages S)
set_option maxRecDepth 20000 in
set_option maxHeartbeats 8000000 in
theorem sf_X9_nodes {S : bT9} (hJ : J9 S) {Q : Int32 → (bT9) → Prop} (hq : ∀ (r : Int32) (u : bT9), (J9 u) → F_X9_nodes S u → (r.toInt = (b9g_nodeMany u).toInt) → (T9P S → TDW S → TDW u ∧ (b9g_areNodesLaid u).toInt ≠ 0 ∧ (b9g_isLaid u).toInt ≠ 0) → Q r u) : wp_X9_nodes S Q := by
  unfold wp_X9_nodes
  have hFS : F_X9_nodes S S := ⟨rfl, rfl, rfl, rfl, rfl, rfl, rfl, rfl, rfl, rfl, rfl, rfl, rfl, rfl, rfl, rfl, rfl, rfl, rfl, rfl, rfl, rfl, rfl, rfl, rfl, rfl, rfl⟩
  have jf1 := J9g_nodeMany hJ
  have jf2 : (-4 ≤ ((b9g_now S) 1).toInt ∧ ((b9g_now S) 1).toInt ≤ 4) ∧ (-3 ≤ ((b9g_now S) 4).toInt ∧ ((b9g_now S) 4).toInt ≤ 252) ∧ (0 ≤ ((b9g_now S) 8).toInt ∧ ((b9g_now S) 8).toInt ≤ 64) ∧ (0 ≤ ((b9g_now S) 9).toInt ∧ ((b9g_now S) 9).toInt ≤ 64) ∧ (0 ≤ ((b9g_now S) 10).toInt ∧ ((b9g_now S) 10).toInt ≤ 16) ∧ (0 ≤ ((b9g_now S) 12).toInt ∧ ((b9g_now S) 12).toInt ≤ 8) := J9g_now hJ
  have ju2_S := hJ.2.1
  refine sf_X9_laysNodes hJ (fun u2 hJu2 hfu2 hr1_0 => ?_)
  have hFu2 : F_X9_nodes S u2 := ⟨(congrArg (fun z => z) hfu2.1).trans hFS.1, (congrArg (fun z => z) hfu2.2.1).trans hFS.2.1, (congrArg (fun z => z) hfu2.2.2.1).trans hFS.2.2.1, (congrArg (fun z => z) hfu2.2.2.2.1).trans hFS.2.2.2.1, (congrArg (fun z => z) hfu2.2.2.2.2.1).trans hFS.2.2.2.2.1, (congrArg (fun z => z) hfu2.2.2.2.2.2.1).trans hFS.2.2.2.2.2.1, (congrArg (fun z => z) hfu2.2.2.2.2.2.2.1).trans hFS.2.2.2.2.2.2.1, (congrArg (fun z => z) hfu2.2.2.2.2.2.2.2.1).trans hFS.2.2.2.2.2.2.2.1, (congrArg (fun z => z) hfu2.2.2.2.2.2.2.2.2.1).trans hFS.2.2.2.2.2.2.2.2.1, (congrArg (fun z => z) hfu2.2.2.2.2.2.2.2.2.2.1).trans hFS.2.2.2.2.2.2.2.2.2.1, (congrArg (fun z => z) hfu2.2.2.2.2.2.2.2.2.2.2.1).trans hFS.2.2.2.2.2.2.2.2.2.2.1, (congrArg (fun z => z) hfu2.2.2.2.2.2.2.2.2.2.2.2.1).trans hFS.2.2.2.2.2.2.2.2.2.2.2.1, (congrArg (fun z => z) hfu2.2.2.2.2.2.2.2.2.2.2.2.2.1).trans hFS.2.2.2.2.2.2.2.2.2.2.2.2.1, (congrArg (fun z => z) hfu2.2.2.2.2.2.2.2.2.2.2.2.2.2.1).trans hFS.2.2.2.2.2.2.2.2.2.2.2.2.2.1, (congrArg (fun z => z) hfu2.2.2.2.2.2.2.2.2.2.2.2.2.2.2.1).trans hFS.2.2.2.2.2.2.2.2.2.2.2.2.2.2.1, (congrArg (fun z => z) hfu2.2.2.2.2.2.2.2.2.2.2.2.2.2.2.2.1).trans hFS.2.2.2.2.2.2.2.2.2.2.2.2.2.2.2.1, (congrArg (fun z => z) hfu2.2.2.2.2.2.2.2.2.2.2.2.2.2.2.2.2.1).trans hFS.2.2.2.2.2.2.2.2.2.2.2.2.2.2.2.2.1, (congrArg (fun z => z) hfu2.2.2.2.2.2.2.2.2.2.2.2.2.2.2.2.2.2.1).trans hFS.2.2.2.2.2.2.2.2.2.2.2.2.2.2.2.2.2.1, (congrArg (fun z => z) hfu2.2.2.2.2.2.2.2.2.2.2.2.2.2.2.2.2.2.2.1).trans hFS.2.2.2.2.2.2.2.2.2.2.2.2.2.2.2.2.2.2.1, (congrArg (fun z => z) hfu2.2.2.2.2.2.2.2.2.2.2.2.2.2.2.2.2.2.2.2.1).trans hFS.2.2.2.2.2.2.2.2.2.2.2.2.2.2.2.2.2.2.2.1, (congrArg (fun z => z) hfu2.2.2.2.2.2.2.2.2.2.2.2.2.2.2.2.2.2.2.2.2.1).trans hFS.2.2.2.2.2.2.2.2.2.2.2.2.2.2.2.2.2.2.2.2.1, (congrArg (fun z => z) hfu2.2.2.2.2.2.2.2.2.2.2.2.2.2.2.2.2.2.2.2.2.2.1).trans hFS.2.2.2.2.2.2.2.2.2.2.2.2.2.2.2.2.2.2.2.2.2.1, (congrArg (fun z => z) hfu2.2.2.2.2.2.2.2.2.2.2.2.2.2.2.2.2.2.2.2.2.2.2.1).trans hFS.2.2.2.2.2.2.2.2.2.2.2.2.2.2.2.2.2.2.2.2.2.2.1, (congrArg (fun z => z) hfu2.2.2.2.2.2.2.2.2.2.2.2.2.2.2.2.2.2.2.2.2.2.2.2.1).trans hFS.2.2.2.2.2.2.2.2.2.2.2.2.2.2.2.2.2.2.2.2.2.2.2.1, (congrArg (fun z => z) hfu2.2.2.2.2.2.2.2.2.2.2.2.2.2.2.2.2.2.2.2.2.2.2.2.2.1).trans hFS.2.2.2.2.2.2.2.2.2.2.2.2.2.2.2.2.2.2.2.2.2.2.2.2.1, (congrArg (fun z => z) hfu2.2.2.2.2.2.2.2.2.2.2.2.2.2.2.2.2.2.2.2.2.2.2.2.2.2.1).trans hFS.2.2.2.2.2.2.2.2.2.2.2.2.2.2.2.2.2.2.2.2.2.2.2.2.2.1, (congrArg (fun z => z) hfu2.2.2.2.2.2.2.2.2.2.2.2.2.2.2.2.2.2.2.2.2.2.2.2.2.2.2).trans hFS.2.2.2.2.2.2.2.2.2.2.2.2.2.2.2.2.2.2.2.2.2.2.2.2.2.2⟩
  have jf3 := J9g_nodeMany hJu2
  have je5 : ((b9g_now u2) 1).toInt = ((b9g_now S) 1).toInt := congrArg (fun z => (z 1).toInt) hFu2.2.1
  have je7 : ((b9g_now u2) 4).toInt = ((b9g_now S) 4).toInt := congrArg (fun z => (z 4).toInt) hFu2.2.1
  have je9 : ((b9g_now u2) 7).toInt = ((b9g_now S) 7).toInt := congrArg (fun z => (z 7).toInt) hFu2.2.1
  have je11 : ((b9g_now u2) 8).toInt = ((b9g_now S) 8).toInt := congrArg (fun z => (z 8).toInt) hFu2.2.1
  have je13 : ((b9g_now u2) 9).toInt = ((b9g_now S) 9).toInt := congrArg (fun z => (z 9).toInt) hFu2.2.1
  have je15 : ((b9g_now u2) 10).toInt = ((b9g_now S) 10).toInt := congrArg (fun z => (z 10).toInt) hFu2.2.1
  have je17 : ((b9g_now u2) 12).toInt = ((b9g_now S) 12).toInt := congrArg (fun z => (z 12).toInt) hFu2.2.1
  have ju17_u2 := hJu2.2.1
  exact hq _ _ hJu2 hFu2 (by (try simp (disch := first | ((try simp (disch := first | ((try simp only [pn]) <;> omega) | fail) only [pn, pq]) <;> omega) | fail) only [pn, pq]) <;> (intros; (try simp (disch := first | ((try simp (disch := first | ((try simp only [pn]) <;> omega) | fail) only [pn, pq]) <;> omega) | fail) only [pn, pq]) <;> omega)) (by (assumption))
def F_X9_isNode (S u : bT9) : Prop := (b9g_told u) = (b9g_told S) ∧ (b9g_now u) = (b9g_now S) ∧ (b9g_keys u) = (b9g_keys S) ∧ (b9g_lengths u) = (b9g_lengths S) ∧ (b9g_drawn u) = (b9g_drawn S) ∧ (b9g_drawnLength u) = (b9g_drawnLength S) ∧ (b9g_tape u) = (b9g_tape S) ∧ (b9g_taped u) = (b9g_taped S) ∧ (b9g_names u) = (b9g_names S) ∧ (b9g_chosen u) = (b9g_chosen S) ∧ (b9g_lowKey u) = (b9g_lowKey S) ∧ (b9g_highKey u) = (b9g_highKey S) ∧ (b9g_lowLength u) = (b9g_lowLength S) ∧ (b9g_highLength u) = (b9g_highLength S) ∧ (b9g_fromKey u) = (b9g_fromKey S) ∧ (b9g_toKey u) = (b9g_toKey S) ∧ (b9g_fromLength u) = (b9g_fromLength S) ∧ (b9g_toLength u) = (b9g_toLength S) ∧ (b9g_ones u) = (b9g_ones S) ∧ (b9g_oneMany u) = (b9g_oneMany S) ∧ (b9g_rowLong u) = (b9g_rowLong S) ∧ (b9g_signs u) = (b9g_signs S) ∧ (b9g_signMany u) = (b9g_signMany S) ∧ (b9g_hasImage u) = (b9g_hasImage S) ∧ (b9g_images u) = (b9g_images S) ∧ (b9g_keyImages u) = (b9g_keyImages S) ∧ (b9g_lengthImages u) = (b9g_lengthImages S)
set_option maxRecDepth 20000 in
set_option maxHeartbeats 8000000 in
theorem sf_X9_isNode {S : bT9} (hJ : J9 S) {a1 : Int32} {Q : Int32 → (bT9) → Prop} (hq : ∀ (r : Int32) (u : bT9), (J9 u) → F_X9_isNode S u → bf_bool r → (r.toInt = 0 ∨ (0 ≤ a1.toInt ∧ a1.toInt < (b9g_nodeMany u).toInt)) → (T9P S → TDW S → TDW u ∧ (b9g_areNodesLaid u).toInt ≠ 0 ∧ (b9g_isLaid u).toInt ≠ 0) → (r.toInt = 0 → a1.toInt < 0 ∨ (b9g_nodeMany u).toInt ≤ a1.toInt) → Q r u) : wp_X9_isNode S a1 Q := by
  unfold wp_X9_isNode
  have hFS : F_X9_isNode S S := ⟨rfl, rfl, rfl, rfl, rfl, rfl, rfl, rfl, rfl, rfl, rfl, rfl, rfl, rfl, rfl, rfl, rfl, rfl, rfl, rfl, rfl, rfl, rfl, rfl, rfl, rfl, rfl⟩
  have jf1 := J9g_nodeMany hJ
  have jf2 : (-4 ≤ ((b9g_now S) 1).toInt ∧ ((b9g_now S) 1).toInt ≤ 4) ∧ (-3 ≤ ((b9g_now S) 4).toInt ∧ ((b9g_now S) 4).toInt ≤ 252) ∧ (0 ≤ ((b9g_now S) 8).toInt ∧ ((b9g_now S) 8).toInt ≤ 64) ∧ (0 ≤ ((b9g_now S) 9).toInt ∧ ((b9g_now S) 9).toInt ≤ 64) ∧ (0 ≤ ((b9g_now S) 10).toInt ∧ ((b9g_now S) 10).toInt ≤ 16) ∧ (0 ≤ ((b9g_now S) 12).toInt ∧ ((b9g_now S) 12).toInt ≤ 8) := J9g_now hJ
  have ju2_S := hJ.2.1
  have rga1 := pt_rg a1
  refine sf_X9_nodes hJ (fun r1 u2 hJu2 hfu2 hr1_0 hr1_1 => ?_)
  have hFu2 : F_X9_isNode S u2 := ⟨(congrArg (fun z => z) hfu2.1).trans hFS.1, (congrArg (fun z => z) hfu2.2.1).trans hFS.2.1, (congrArg (fun z => z) hfu2.2.2.1).trans hFS.2.2.1, (congrArg (fun z => z) hfu2.2.2.2.1).trans hFS.2.2.2.1, (congrArg (fun z => z) hfu2.2.2.2.2.1).trans hFS.2.2.2.2.1, (congrArg (fun z => z) hfu2.2.2.2.2.2.1).trans hFS.2.2.2.2.2.1, (congrArg (fun z => z) hfu2.2.2.2.2.2.2.1).trans hFS.2.2.2.2.2.2.1, (congrArg (fun z => z) hfu2.2.2.2.2.2.2.2.1).trans hFS.2.2.2.2.2.2.2.1, (congrArg (fun z => z) hfu2.2.2.2.2.2.2.2.2.1).trans hFS.2.2.2.2.2.2.2.2.1, (congrArg (fun z => z) hfu2.2.2.2.2.2.2.2.2.2.1).trans hFS.2.2.2.2.2.2.2.2.2.1, (congrArg (fun z => z) hfu2.2.2.2.2.2.2.2.2.2.2.1).trans hFS.2.2.2.2.2.2.2.2.2.2.1, (congrArg (fun z => z) hfu2.2.2.2.2.2.2.2.2.2.2.2.1).trans hFS.2.2.2.2.2.2.2.2.2.2.2.1, (congrArg (fun z => z) hfu2.2.2.2.2.2.2.2.2.2.2.2.2.1).trans hFS.2.2.2.2.2.2.2.2.2.2.2.2.1, (congrArg (fun z => z) hfu2.2.2.2.2.2.2.2.2.2.2.2.2.2.1).trans hFS.2.2.2.2.2.2.2.2.2.2.2.2.2.1, (congrArg (fun z => z) hfu2.2.2.2.2.2.2.2.2.2.2.2.2.2.2.1).trans hFS.2.2.2.2.2.2.2.2.2.2.2.2.2.2.1, (congrArg (fun z => z) hfu2.2.2.2.2.2.2.2.2.2.2.2.2.2.2.2.1).trans hFS.2.2.2.2.2.2.2.2.2.2.2.2.2.2.2.1, (congrArg (fun z => z) hfu2.2.2.2.2.2.2.2.2.2.2.2.2.2.2.2.2.1).trans hFS.2.2.2.2.2.2.2.2.2.2.2.2.2.2.2.2.1, (congrArg (fun z => z) hfu2.2.2.2.2.2.2.2.2.2.2.2.2.2.2.2.2.2.1).trans hFS.2.2.2.2.2.2.2.2.2.2.2.2.2.2.2.2.2.1, (congrArg (fun z => z) hfu2.2.2.2.2.2.2.2.2.2.2.2.2.2.2.2.2.2.2.1).trans hFS.2.2.2.2.2.2.2.2.2.2.2.2.2.2.2.2.2.2.1, (congrArg (fun z => z) hfu2.2.2.2.2.2.2.2.2.2.2.2.2.2.2.2.2.2.2.2.1).trans hFS.2.2.2.2.2.2.2.2.2.2.2.2.2.2.2.2.2.2.2.1, (congrArg (fun z => z) hfu2.2.2.2.2.2.2.2.2.2.2.2.2.2.2.2.2.2.2.2.2.1).trans hFS.2.2.2.2.2.2.2.2.2.2.2.2.2.2.2.2.2.2.2.2.1, (congrArg (fun z => z) hfu2.2.2.2.2.2.2.2.2.2.2.2.2.2.2.2.2.2.2.2.2.2.1).trans hFS.2.2.2.2.2.2.2.2.2.2.2.2.2.2.2.2.2.2.2.2.2.1, (congrArg (fun z => z) hfu2.2.2.2.2.2.2.2.2.2.2.2.2.2.2.2.2.2.2.2.2.2.2.1).trans hFS.2.2.2.2.2.2.2.2.2.2.2.2.2.2.2.2.2.2.2.2.2.2.1, (congrArg (fun z => z) hfu2.2.2.2.2.2.2.2.2.2.2.2.2.2.2.2.2.2.2.2.2.2.2.2.1).trans hFS.2.2.2.2.2.2.2.2.2.2.2.2.2.2.2.2.2.2.2.2.2.2.2.1, (congrArg (fun z => z) hfu2.2.2.2.2.2.2.2.2.2.2.2.2.2.2.2.2.2.2.2.2.2.2.2.2.1).trans hFS.2.2.2.2.2.2.2.2.2.2.2.2.2.2.2.2.2.2.2.2.2.2.2.2.1, (congrArg (fun z => z) hfu2.2.2.2.2.2.2.2.2.2.2.2.2.2.2.2.2.2.2.2.2.2.2.2.2.2.1).trans hFS.2.2.2.2.2.2.2.2.2.2.2.2.2.2.2.2.2.2.2.2.2.2.2.2.2.1, (congrArg (fun z => z) hfu2.2.2.2.2.2.2.2.2.2.2.2.2.2.2.2.2.2.2.2.2.2.2.2.2.2.2).trans hFS.2.2.2.2.2.2.2.2.2.2.2.2.2.2.2.2.2.2.2.2.2.2.2.2.2.2⟩
  have je4 : ((b9g_now u2) 1).toInt = ((b9g_now S) 1).toInt := congrArg (fun z => (z 1).toInt) hFu2.2.1
  have je6 : ((b9g_now u2) 4).toInt = ((b9g_now S) 4).toInt := congrArg (fun z => (z 4).toInt) hFu2.2.1
  have je8 : ((b9g_now u2) 7).toInt = ((b9g_now S) 7).toInt := congrArg (fun z => (z 7).toInt) hFu2.2.1
  have je10 : ((b9g_now u2) 8).toInt = ((b9g_now S) 8).toInt := congrArg (fun z => (z 8).toInt) hFu2.2.1
  have je12 : ((b9g_now u2) 9).toInt = ((b9g_now S) 9).toInt := congrArg (fun z => (z 9).toInt) hFu2.2.1
  have je14 : ((b9g_now u2) 10).toInt = ((b9g_now S) 10).toInt := congrArg (fun z => (z 10).toInt) hFu2.2.1
  have je16 : ((b9g_now u2) 12).toInt = ((b9g_now S) 12).toInt := congrArg (fun z => (z 12).toInt) hFu2.2.1
  have jf17 := J9g_nodeMany hJu2
  have ju17_u2 := hJu2.2.1
  have rgr1 := pt_rg r1
  try simp (disch := first | ((try simp (disch := first | ((try simp only [pn]) <;> omega) | fail) only [pn, pq]) <;> omega) | fail) only [pn, pq] at hr1_0
  refine sf_X9_isIn hJu2.1 (fun r3 hzr3 hr3_0 => ?_)
  try simp (disch := first | ((try simp (disch := first | ((try simp only [pn]) <;> omega) | fail) only [pn, pq]) <;> omega) | fail) only [pn, pq] at hr3_0
  exact ⟨by first | rfl | assumption, hq _ _ hJu2 hFu2 (by first | rfl | assumption) (by (try simp (disch := first | ((try simp (disch := first | ((try simp only [pn]) <;> omega) | fail) only [pn, pq]) <;> omega) | fail) only [pn, pq]) <;> (intros; (try simp (disch := first | ((try simp (disch := first | ((try simp only [pn]) <;> omega) | fail) only [pn, pq]) <;> omega) | fail) only [pn, pq]) <;> omega)) (by (assumption)) (by (try simp (disch := first | ((try simp (disch := first | ((try simp only [pn]) <;> omega) | fail) only [pn, pq]) <;> omega) | fail) only [pn, pq]) <;> (intros; (try simp (disch := first | ((try simp (disch := first | ((try simp only [pn]) <;> omega) | fail) only [pn, pq]) <;> omega) | fail) only [pn, pq]) <;> omega))⟩
def F_X9_isLeaf (S u : bT9) : Prop := (b9g_told u) = (b9g_told S) ∧ (b9g_now u) = (b9g_now S) ∧ (b9g_keys u) = (b9g_keys S) ∧ (b9g_lengths u) = (b9g_lengths S) ∧ (b9g_drawn u) = (b9g_drawn S) ∧ (b9g_drawnLength u) = (b9g_drawnLength S) ∧ (b9g_tape u) = (b9g_tape S) ∧ (b9g_taped u) = (b9g_taped S) ∧ (b9g_names u) = (b9g_names S) ∧ (b9g_chosen u) = (b9g_chosen S) ∧ (b9g_nodeLevel u) = (b9g_nodeLevel S) ∧ (b9g_nodeLeaf u) = (b9g_nodeLeaf S) ∧ (b9g_nodeLeaves u) = (b9g_nodeLeaves S) ∧ (b9g_nodeMany u) = (b9g_nodeMany S) ∧ (b9g_levelMany u) = (b9g_levelMany S) ∧ (b9g_upper u) = (b9g_upper S) ∧ (b9g_upperNodes u) = (b9g_upperNodes S) ∧ (b9g_areNodesLaid u) = (b9g_areNodesLaid S) ∧ (b9g_itemNode u) = (b9g_itemNode S) ∧ (b9g_itemByte u) = (b9g_itemByte S) ∧ (b9g_itemChild u) = (b9g_itemChild S) ∧ (b9g_itemMany u) = (b9g_itemMany S) ∧ (b9g_placeOf u) = (b9g_placeOf S) ∧ (b9g_leafOfPlace u) = (b9g_leafOfPlace S) ∧ (b9g_places u) = (b9g_places S) ∧ (b9g_lowKey u) = (b9g_lowKey S) ∧ (b9g_highKey u) = (b9g_highKey S) ∧ (b9g_lowLength u) = (b9g_lowLength S) ∧ (b9g_highLength u) = (b9g_highLength S) ∧ (b9g_fromKey u) = (b9g_fromKey S) ∧ (b9g_toKey u) = (b9g_toKey S) ∧ (b9g_fromLength u) = (b9g_fromLength S) ∧ (b9g_toLength u) = (b9g_toLength S) ∧ (b9g_ones u) = (b9g_ones S) ∧ (b9g_oneMany u) = (b9g_oneMany S) ∧ (b9g_rowLong u) = (b9g_rowLong S) ∧ (b9g_laidFor u) = (b9g_laidFor S) ∧ (b9g_signs u) = (b9g_signs S) ∧ (b9g_signMany u) = (b9g_signMany S) ∧ (b9g_hasImage u) = (b9g_hasImage S) ∧ (b9g_images u) = (b9g_images S) ∧ (b9g_keyImages u) = (b9g_keyImages S) ∧ (b9g_lengthImages u) = (b9g_lengthImages S)
set_option maxRecDepth 20000 in
set_option maxHeartbeats 8000000 in
theorem sf_X9_isLeaf {S : bT9} (hJ : J9 S) {a1 : Int32} {Q : Int32 → (bT9) → Prop} (hq : ∀ (r : Int32) (u : bT9), (J9 u) → F_X9_isLeaf S u → bf_bool r → (r.toInt = 0 ∨ (0 ≤ a1.toInt ∧ a1.toInt < (b9g_now u 9).toInt)) → (r.toInt = 0 → a1.toInt < 0 ∨ (b9g_now u 9).toInt ≤ a1.toInt) → Q r u) : wp_X9_isLeaf S a1 Q := by
  unfold wp_X9_isLeaf
  have hFS : F_X9_isLeaf S S := ⟨rfl, rfl, rfl, rfl, rfl, rfl, rfl, rfl, rfl, rfl, rfl, rfl, rfl, rfl, rfl, rfl, rfl, rfl, rfl, rfl, rfl, rfl, rfl, rfl, rfl, rfl, rfl, rfl, rfl, rfl, rfl, rfl, rfl, rfl, rfl, rfl, rfl, rfl, rfl, rfl, rfl, rfl, rfl⟩
  have jf1 : (-4 ≤ ((b9g_now S) 1).toInt ∧ ((b9g_now S) 1).toInt ≤ 4) ∧ (-3 ≤ ((b9g_now S) 4).toInt ∧ ((b9g_now S) 4).toInt ≤ 252) ∧ (0 ≤ ((b9g_now S) 8).toInt ∧ ((b9g_now S) 8).toInt ≤ 64) ∧ (0 ≤ ((b9g_now S) 9).toInt ∧ ((b9g_now S) 9).toInt ≤ 64) ∧ (0 ≤ ((b9g_now S) 10).toInt ∧ ((b9g_now S) 10).toInt ≤ 16) ∧ (0 ≤ ((b9g_now S) 12).toInt ∧ ((b9g_now S) 12).toInt ≤ 8) := J9g_now hJ
  have ju1_S := hJ.2.1
  have rga1 := pt_rg a1
  refine sf_X9_leaves hJ (fun r1 u2 hJu2 hfu2 hr1_0 hr1_1 => ?_)
  have hFu2 : F_X9_isLeaf S u2 := ⟨(congrArg (fun z => z) hfu2.1).trans hFS.1, (congrArg (fun z => z) hfu2.2.1).trans hFS.2.1, (congrArg (fun z => z) hfu2.2.2.1).trans hFS.2.2.1, (congrArg (fun z => z) hfu2.2.2.2.1).trans hFS.2.2.2.1, (congrArg (fun z => z) hfu2.2.2.2.2.1).trans hFS.2.2.2.2.1, (congrArg (fun z => z) hfu2.2.2.2.2.2.1).trans hFS.2.2.2.2.2.1, (congrArg (fun z => z) hfu2.2.2.2.2.2.2.1).trans hFS.2.2.2.2.2.2.1, (congrArg (fun z => z) hfu2.2.2.2.2.2.2.2.1).trans hFS.2.2.2.2.2.2.2.1, (congrArg (fun z => z) hfu2.2.2.2.2.2.2.2.2.1).trans hFS.2.2.2.2.2.2.2.2.1, (congrArg (fun z => z) hfu2.2.2.2.2.2.2.2.2.2.1).trans hFS.2.2.2.2.2.2.2.2.2.1, (congrArg (fun z => z) hfu2.2.2.2.2.2.2.2.2.2.2.1).trans hFS.2.2.2.2.2.2.2.2.2.2.1, (congrArg (fun z => z) hfu2.2.2.2.2.2.2.2.2.2.2.2.1).trans hFS.2.2.2.2.2.2.2.2.2.2.2.1, (congrArg (fun z => z) hfu2.2.2.2.2.2.2.2.2.2.2.2.2.1).trans hFS.2.2.2.2.2.2.2.2.2.2.2.2.1, (congrArg (fun z => z) hfu2.2.2.2.2.2.2.2.2.2.2.2.2.2.1).trans hFS.2.2.2.2.2.2.2.2.2.2.2.2.2.1, (congrArg (fun z => z) hfu2.2.2.2.2.2.2.2.2.2.2.2.2.2.2.1).trans hFS.2.2.2.2.2.2.2.2.2.2.2.2.2.2.1, (congrArg (fun z => z) hfu2.2.2.2.2.2.2.2.2.2.2.2.2.2.2.2.1).trans hFS.2.2.2.2.2.2.2.2.2.2.2.2.2.2.2.1, (congrArg (fun z => z) hfu2.2.2.2.2.2.2.2.2.2.2.2.2.2.2.2.2.1).trans hFS.2.2.2.2.2.2.2.2.2.2.2.2.2.2.2.2.1, (congrArg (fun z => z) hfu2.2.2.2.2.2.2.2.2.2.2.2.2.2.2.2.2.2.1).trans hFS.2.2.2.2.2.2.2.2.2.2.2.2.2.2.2.2.2.1, (congrArg (fun z => z) hfu2.2.2.2.2.2.2.2.2.2.2.2.2.2.2.2.2.2.2.1).trans hFS.2.2.2.2.2.2.2.2.2.2.2.2.2.2.2.2.2.2.1, (congrArg (fun z => z) hfu2.2.2.2.2.2.2.2.2.2.2.2.2.2.2.2.2.2.2.2.1).trans hFS.2.2.2.2.2.2.2.2.2.2.2.2.2.2.2.2.2.2.2.1, (congrArg (fun z => z) hfu2.2.2.2.2.2.2.2.2.2.2.2.2.2.2.2.2.2.2.2.2.1).trans hFS.2.2.2.2.2.2.2.2.2.2.2.2.2.2.2.2.2.2.2.2.1, (congrArg (fun z => z) hfu2.2.2.2.2.2.2.2.2.2.2.2.2.2.2.2.2.2.2.2.2.2.1).trans hFS.2.2.2.2.2.2.2.2.2.2.2.2.2.2.2.2.2.2.2.2.2.1, (congrArg (fun z => z) hfu2.2.2.2.2.2.2.2.2.2.2.2.2.2.2.2.2.2.2.2.2.2.2.1).trans hFS.2.2.2.2.2.2.2.2.2.2.2.2.2.2.2.2.2.2.2.2.2.2.1, (congrArg (fun z => z) hfu2.2.2.2.2.2.2.2.2.2.2.2.2.2.2.2.2.2.2.2.2.2.2.2.1).trans hFS.2.2.2.2.2.2.2.2.2.2.2.2.2.2.2.2.2.2.2.2.2.2.2.1, (congrArg (fun z => z) hfu2.2.2.2.2.2.2.2.2.2.2.2.2.2.2.2.2.2.2.2.2.2.2.2.2.1).trans hFS.2.2.2.2.2.2.2.2.2.2.2.2.2.2.2.2.2.2.2.2.2.2.2.2.1, (congrArg (fun z => z) hfu2.2.2.2.2.2.2.2.2.2.2.2.2.2.2.2.2.2.2.2.2.2.2.2.2.2.1).trans hFS.2.2.2.2.2.2.2.2.2.2.2.2.2.2.2.2.2.2.2.2.2.2.2.2.2.1, (congrArg (fun z => z) hfu2.2.2.2.2.2.2.2.2.2.2.2.2.2.2.2.2.2.2.2.2.2.2.2.2.2.2.1).trans hFS.2.2.2.2.2.2.2.2.2.2.2.2.2.2.2.2.2.2.2.2.2.2.2.2.2.2.1, (congrArg (fun z => z) hfu2.2.2.2.2.2.2.2.2.2.2.2.2.2.2.2.2.2.2.2.2.2.2.2.2.2.2.2.1).trans hFS.2.2.2.2.2.2.2.2.2.2.2.2.2.2.2.2.2.2.2.2.2.2.2.2.2.2.2.1, (congrArg (fun z => z) hfu2.2.2.2.2.2.2.2.2.2.2.2.2.2.2.2.2.2.2.2.2.2.2.2.2.2.2.2.2.1).trans hFS.2.2.2.2.2.2.2.2.2.2.2.2.2.2.2.2.2.2.2.2.2.2.2.2.2.2.2.2.1, (congrArg (fun z => z) hfu2.2.2.2.2.2.2.2.2.2.2.2.2.2.2.2.2.2.2.2.2.2.2.2.2.2.2.2.2.2.1).trans hFS.2.2.2.2.2.2.2.2.2.2.2.2.2.2.2.2.2.2.2.2.2.2.2.2.2.2.2.2.2.1, (congrArg (fun z => z) hfu2.2.2.2.2.2.2.2.2.2.2.2.2.2.2.2.2.2.2.2.2.2.2.2.2.2.2.2.2.2.2.1).trans hFS.2.2.2.2.2.2.2.2.2.2.2.2.2.2.2.2.2.2.2.2.2.2.2.2.2.2.2.2.2.2.1, (congrArg (fun z => z) hfu2.2.2.2.2.2.2.2.2.2.2.2.2.2.2.2.2.2.2.2.2.2.2.2.2.2.2.2.2.2.2.2.1).trans hFS.2.2.2.2.2.2.2.2.2.2.2.2.2.2.2.2.2.2.2.2.2.2.2.2.2.2.2.2.2.2.2.1, (congrArg (fun z => z) hfu2.2.2.2.2.2.2.2.2.2.2.2.2.2.2.2.2.2.2.2.2.2.2.2.2.2.2.2.2.2.2.2.2.1).trans hFS.2.2.2.2.2.2.2.2.2.2.2.2.2.2.2.2.2.2.2.2.2.2.2.2.2.2.2.2.2.2.2.2.1, (congrArg (fun z => z) hfu2.2.2.2.2.2.2.2.2.2.2.2.2.2.2.2.2.2.2.2.2.2.2.2.2.2.2.2.2.2.2.2.2.2.1).trans hFS.2.2.2.2.2.2.2.2.2.2.2.2.2.2.2.2.2.2.2.2.2.2.2.2.2.2.2.2.2.2.2.2.2.1, (congrArg (fun z => z) hfu2.2.2.2.2.2.2.2.2.2.2.2.2.2.2.2.2.2.2.2.2.2.2.2.2.2.2.2.2.2.2.2.2.2.2.1).trans hFS.2.2.2.2.2.2.2.2.2.2.2.2.2.2.2.2.2.2.2.2.2.2.2.2.2.2.2.2.2.2.2.2.2.2.1, (congrArg (fun z => z) hfu2.2.2.2.2.2.2.2.2.2.2.2.2.2.2.2.2.2.2.2.2.2.2.2.2.2.2.2.2.2.2.2.2.2.2.2.1).trans hFS.2.2.2.2.2.2.2.2.2.2.2.2.2.2.2.2.2.2.2.2.2.2.2.2.2.2.2.2.2.2.2.2.2.2.2.1, (congrArg (fun z => z) hfu2.2.2.2.2.2.2.2.2.2.2.2.2.2.2.2.2.2.2.2.2.2.2.2.2.2.2.2.2.2.2.2.2.2.2.2.2.1).trans hFS.2.2.2.2.2.2.2.2.2.2.2.2.2.2.2.2.2.2.2.2.2.2.2.2.2.2.2.2.2.2.2.2.2.2.2.2.1, (congrArg (fun z => z) hfu2.2.2.2.2.2.2.2.2.2.2.2.2.2.2.2.2.2.2.2.2.2.2.2.2.2.2.2.2.2.2.2.2.2.2.2.2.2.1).trans hFS.2.2.2.2.2.2.2.2.2.2.2.2.2.2.2.2.2.2.2.2.2.2.2.2.2.2.2.2.2.2.2.2.2.2.2.2.2.1, (congrArg (fun z => z) hfu2.2.2.2.2.2.2.2.2.2.2.2.2.2.2.2.2.2.2.2.2.2.2.2.2.2.2.2.2.2.2.2.2.2.2.2.2.2.2.1).trans hFS.2.2.2.2.2.2.2.2.2.2.2.2.2.2.2.2.2.2.2.2.2.2.2.2.2.2.2.2.2.2.2.2.2.2.2.2.2.2.1, (congrArg (fun z => z) hfu2.2.2.2.2.2.2.2.2.2.2.2.2.2.2.2.2.2.2.2.2.2.2.2.2.2.2.2.2.2.2.2.2.2.2.2.2.2.2.2.1).trans hFS.2.2.2.2.2.2.2.2.2.2.2.2.2.2.2.2.2.2.2.2.2.2.2.2.2.2.2.2.2.2.2.2.2.2.2.2.2.2.2.1, (congrArg (fun z => z) hfu2.2.2.2.2.2.2.2.2.2.2.2.2.2.2.2.2.2.2.2.2.2.2.2.2.2.2.2.2.2.2.2.2.2.2.2.2.2.2.2.2.1).trans hFS.2.2.2.2.2.2.2.2.2.2.2.2.2.2.2.2.2.2.2.2.2.2.2.2.2.2.2.2.2.2.2.2.2.2.2.2.2.2.2.2.1, (congrArg (fun z => z) hfu2.2.2.2.2.2.2.2.2.2.2.2.2.2.2.2.2.2.2.2.2.2.2.2.2.2.2.2.2.2.2.2.2.2.2.2.2.2.2.2.2.2.1).trans hFS.2.2.2.2.2.2.2.2.2.2.2.2.2.2.2.2.2.2.2.2.2.2.2.2.2.2.2.2.2.2.2.2.2.2.2.2.2.2.2.2.2.1, (congrArg (fun z => z) hfu2.2.2.2.2.2.2.2.2.2.2.2.2.2.2.2.2.2.2.2.2.2.2.2.2.2.2.2.2.2.2.2.2.2.2.2.2.2.2.2.2.2.2).trans hFS.2.2.2.2.2.2.2.2.2.2.2.2.2.2.2.2.2.2.2.2.2.2.2.2.2.2.2.2.2.2.2.2.2.2.2.2.2.2.2.2.2.2⟩
  have je3 : ((b9g_now u2) 1).toInt = ((b9g_now S) 1).toInt := congrArg (fun z => (z 1).toInt) hFu2.2.1
  have je5 : ((b9g_now u2) 4).toInt = ((b9g_now S) 4).toInt := congrArg (fun z => (z 4).toInt) hFu2.2.1
  have je7 : ((b9g_now u2) 7).toInt = ((b9g_now S) 7).toInt := congrArg (fun z => (z 7).toInt) hFu2.2.1
  have je9 : ((b9g_now u2) 8).toInt = ((b9g_now S) 8).toInt := congrArg (fun z => (z 8).toInt) hFu2.2.1
  have je11 : ((b9g_now u2) 9).toInt = ((b9g_now S) 9).toInt := congrArg (fun z => (z 9).toInt) hFu2.2.1
  have je13 : ((b9g_now u2) 10).toInt = ((b9g_now S) 10).toInt := congrArg (fun z => (z 10).toInt) hFu2.2.1
  have je15 : ((b9g_now u2) 12).toInt = ((b9g_now S) 12).toInt := congrArg (fun z => (z 12).toInt) hFu2.2.1
  have ju15_u2 := hJu2.2.1
  have rgr1 := pt_rg r1
  try simp (disch := first | ((try simp (disch := first | ((try simp only [pn]) <;> omega) | fail) only [pn, pq]) <;> omega) | fail) only [pn, pq] at hr1_0
  refine sf_X9_isIn hJu2.1 (fun r3 hzr3 hr3_0 => ?_)
  try simp (disch := first | ((try simp (disch := first | ((try simp only [pn]) <;> omega) | fail) only [pn, pq]) <;> omega) | fail) only [pn, pq] at hr3_0
  exact ⟨by first | rfl | assumption, hq _ _ hJu2 hFu2 (by first | rfl | assumption) (by (try simp (disch := first | ((try simp (disch := first | ((try simp only [pn]) <;> omega) | fail) only [pn, pq]) <;> omega) | fail) only [pn, pq]) <;> (intros; (try simp (disch := first | ((try simp (disch := first | ((try simp only [pn]) <;> omega) | fail) only [pn, pq]) <;> omega) | fail) only [pn, pq]) <;> omega)) (by (try simp (disch := first | ((try simp (disch := first | ((try simp only [pn]) <;> omega) | fail) only [pn, pq]) <;> omega) | fail) only [pn, pq]) <;> (intros; (try simp (disch := first | ((try simp (disch := first | ((try simp only [pn]) <;> omega) | fail) only [pn, pq]) <;> omega) | fail) only [pn, pq]) <;> omega))⟩
theorem TF_isLeaf {S u : bT9} (h : F_X9_isLeaf S u) : TF9 u S := ⟨⟨h.2.2.1, h.2.2.2.1, h.2.1⟩, h.2.2.2.2.2.2.2.2.2.2.2.2.2.2.2.2.2.1, h.2.2.2.2.2.2.2.2.2.2.1, h.2.2.2.2.2.2.2.2.2.2.2.1, h.2.2.2.2.2.2.2.2.2.2.2.2.1, h.2.2.2.2.2.2.2.2.2.2.2.2.2.1, h.2.2.2.2.2.2.2.2.2.2.2.2.2.2.1, h.2.2.2.2.2.2.2.2.2.2.2.2.2.2.2.1, h.2.2.2.2.2.2.2.2.2.2.2.2.2.2.2.2.1, h.2.2.2.2.2.2.2.2.2.2.2.2.2.2.2.2.2.2.1, h.2.2.2.2.2.2.2.2.2.2.2.2.2.2.2.2.2.2.2.1, h.2.2.2.2.2.2.2.2.2.2.2.2.2.2.2.2.2.2.2.2.1, h.2.2.2.2.2.2.2.2.2.2.2.2.2.2.2.2.2.2.2.2.2.1, h.2.2.2.2.2.2.2.2.2.2.2.2.2.2.2.2.2.2.2.2.2.2.1, h.2.2.2.2.2.2.2.2.2.2.2.2.2.2.2.2.2.2.2.2.2.2.2.1, h.2.2.2.2.2.2.2.2.2.2.2.2.2.2.2.2.2.2.2.2.2.2.2.2.2.2.2.2.2.2.2.2.2.2.2.2.1, h.2.2.2.2.2.2.2.2.2.2.2.2.2.2.2.2.2.2.2.2.2.2.2.2.2.2.2.2.2.2.2.2.2.2.1, h.2.2.2.2.2.2.2.2.2.2.2.2.2.2.2.2.2.2.2.2.2.2.2.2.2.2.2.2.2.2.2.2.2.2.2.1, h.2.2.2.2.2.2.2.2.2.2.2.2.2.2.2.2.2.2.2.2.2.2.2.2.2.2.2.2.2.2.2.2.2.1⟩
