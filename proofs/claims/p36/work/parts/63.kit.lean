/-! PHASE 2: pure rows. Ints by their values -/
theorem pt_in {i : Int32} {n : Nat} (h0 : 0 ≤ i.toInt) (h1 : i.toInt < (n : Int)) : vp_in i n := by
  intro h
  rcases h with h | h
  · have := Int32.lt_iff_toInt_lt.mp h
    simp at this
    omega
  · have h2 : (i.toNatClampNeg : Int) = i.toInt := Int.toNat_of_nonneg h0
    omega
theorem pt_rg (x : Int32) : -2147483648 ≤ x.toInt ∧ x.toInt < 2147483648 := ⟨Int32.le_toInt x, Int32.toInt_lt x⟩
theorem pt_add {x y : Int32} (h0 : -2147483648 ≤ x.toInt + y.toInt) (h1 : x.toInt + y.toInt < 2147483648) : (x + y).toInt = x.toInt + y.toInt := by
  rw [Int32.toInt_add]
  exact Int.bmod_eq_of_le (by omega) (by omega)
theorem pt_sub {x y : Int32} (h0 : -2147483648 ≤ x.toInt - y.toInt) (h1 : x.toInt - y.toInt < 2147483648) : (x - y).toInt = x.toInt - y.toInt := by
  rw [Int32.toInt_sub]
  exact Int.bmod_eq_of_le (by omega) (by omega)
theorem pt_mul {x y : Int32} (h0 : -2147483648 ≤ x.toInt * y.toInt) (h1 : x.toInt * y.toInt < 2147483648) : (x * y).toInt = x.toInt * y.toInt := by
  rw [Int32.toInt_mul]
  exact Int.bmod_eq_of_le (by omega) (by omega)
theorem pt_half {x : Int32} (h0 : 0 ≤ x.toInt) : (x / 2).toInt = x.toInt / 2 := by
  rw [Int32.toInt_div]
  have h2 : (2 : Int32).toInt = 2 := rfl
  rw [h2, Int.tdiv_eq_ediv_of_nonneg h0]
  have := (pt_rg x).2
  exact Int.bmod_eq_of_le (by omega) (by omega)
theorem pt_clamp {i : Int32} (h0 : 0 ≤ i.toInt) : (i.toNatClampNeg : Int) = i.toInt := Int.toNat_of_nonneg h0
theorem pl_0 : (0 : Int32).toInt = 0 := rfl
theorem pl_1 : (1 : Int32).toInt = 1 := rfl
theorem pl_2 : (2 : Int32).toInt = 2 := rfl
theorem pl_3 : (3 : Int32).toInt = 3 := rfl
theorem pl_4 : (4 : Int32).toInt = 4 := rfl
theorem pl_5 : (5 : Int32).toInt = 5 := rfl
theorem pl_6 : (6 : Int32).toInt = 6 := rfl
theorem pl_7 : (7 : Int32).toInt = 7 := rfl
theorem pl_8 : (8 : Int32).toInt = 8 := rfl
theorem pl_9 : (9 : Int32).toInt = 9 := rfl
theorem pl_10 : (10 : Int32).toInt = 10 := rfl
theorem pl_11 : (11 : Int32).toInt = 11 := rfl
theorem pl_12 : (12 : Int32).toInt = 12 := rfl
theorem pl_13 : (13 : Int32).toInt = 13 := rfl
theorem pl_14 : (14 : Int32).toInt = 14 := rfl
theorem pl_15 : (15 : Int32).toInt = 15 := rfl
theorem pl_16 : (16 : Int32).toInt = 16 := rfl
theorem pl_17 : (17 : Int32).toInt = 17 := rfl
theorem pl_18 : (18 : Int32).toInt = 18 := rfl
theorem pl_19 : (19 : Int32).toInt = 19 := rfl
theorem pl_20 : (20 : Int32).toInt = 20 := rfl
theorem pl_21 : (21 : Int32).toInt = 21 := rfl
theorem pl_22 : (22 : Int32).toInt = 22 := rfl
theorem pl_23 : (23 : Int32).toInt = 23 := rfl
theorem pl_24 : (24 : Int32).toInt = 24 := rfl
theorem pl_25 : (25 : Int32).toInt = 25 := rfl
theorem pl_26 : (26 : Int32).toInt = 26 := rfl
theorem pl_27 : (27 : Int32).toInt = 27 := rfl
theorem pl_28 : (28 : Int32).toInt = 28 := rfl
theorem pl_29 : (29 : Int32).toInt = 29 := rfl
theorem pl_30 : (30 : Int32).toInt = 30 := rfl
theorem pl_31 : (31 : Int32).toInt = 31 := rfl
theorem pl_32 : (32 : Int32).toInt = 32 := rfl
theorem pl_55 : (55 : Int32).toInt = 55 := rfl
theorem pl_56 : (56 : Int32).toInt = 56 := rfl
theorem pl_63 : (63 : Int32).toInt = 63 := rfl
theorem pl_64 : (64 : Int32).toInt = 64 := rfl
theorem pl_99 : (99 : Int32).toInt = 99 := rfl
theorem pl_100 : (100 : Int32).toInt = 100 := rfl
theorem pl_127 : (127 : Int32).toInt = 127 := rfl
theorem pl_128 : (128 : Int32).toInt = 128 := rfl
theorem pl_140 : (140 : Int32).toInt = 140 := rfl
theorem pl_144 : (144 : Int32).toInt = 144 := rfl
theorem pl_159 : (159 : Int32).toInt = 159 := rfl
theorem pl_160 : (160 : Int32).toInt = 160 := rfl
theorem pl_200 : (200 : Int32).toInt = 200 := rfl
theorem pl_232 : (232 : Int32).toInt = 232 := rfl
theorem pl_233 : (233 : Int32).toInt = 233 := rfl
theorem pl_255 : (255 : Int32).toInt = 255 := rfl
theorem pl_256 : (256 : Int32).toInt = 256 := rfl
theorem pl_296 : (296 : Int32).toInt = 296 := rfl
theorem pl_512 : (512 : Int32).toInt = 512 := rfl
theorem pl_513 : (513 : Int32).toInt = 513 := rfl
theorem pl_700 : (700 : Int32).toInt = 700 := rfl
theorem pl_m1 : (-1 : Int32).toInt = -1 := rfl
def ub (x : Int64) : Nat := x.toBitVec.toNat
def PX (x t : Nat) : Nat := x / 2 ^ (64 - 8 * t)
def ALK (x y : Nat) : Nat → Nat
  | 0 => 0
  | q + 1 => if PX x (q + 1) = PX y (q + 1) then q + 1 else ALK x y q
def ALR (f : Nat → Int64) (g : Nat → Int32) (i j : Nat) : Nat := ALK (ub (f i)) (ub (f j)) (min (g i).toInt (g j).toInt).toNat
def COM (f : Nat → Int64) (g : Nat → Int32) (c : Int) (i : Nat) : Nat := max (if i = 0 then 0 else ALR f g i (i - 1)) (if ((i + 1 : Nat) : Int) < c then ALR f g i (i + 1) else 0)
def BEG (f : Nat → Int64) (g : Nat → Int32) (c : Int) (i : Nat) : Nat := min (COM f g c i + 1) (g i).toInt.toNat
theorem up_n {f : Nat → Int32} {i j : Nat} {x : Int32} (h : j ≠ i) : upd f i x j = f j := by
  unfold upd
  rw [if_neg h]
theorem ALR_agr {f f2 : Nat → Int64} {g g2 : Nat → Int32} {i j : Nat} (e1 : f2 i = f i ∧ g2 i = g i) (e2 : f2 j = f j ∧ g2 j = g j) : ALR f2 g2 i j = ALR f g i j := by
  unfold ALR
  rw [e1.1, e1.2, e2.1, e2.2]
theorem COM_agr {f f2 : Nat → Int64} {g g2 : Nat → Int32} {c : Int} (e : ∀ j : Nat, (j : Int) < c → f2 j = f j ∧ g2 j = g j) {i : Nat} (hi : (i : Int) < c) : COM f2 g2 c i = COM f g c i := by
  have a : (if i = 0 then 0 else ALR f2 g2 i (i - 1)) = (if i = 0 then 0 else ALR f g i (i - 1)) := by
    by_cases h : i = 0
    · rw [if_pos h, if_pos h]
    · rw [if_neg h, if_neg h, ALR_agr (e i hi) (e (i - 1) (by omega))]
  have b : (if ((i + 1 : Nat) : Int) < c then ALR f2 g2 i (i + 1) else 0) = (if ((i + 1 : Nat) : Int) < c then ALR f g i (i + 1) else 0) := by
    by_cases h : ((i + 1 : Nat) : Int) < c
    · rw [if_pos h, if_pos h, ALR_agr (e i hi) (e (i + 1) h)]
    · rw [if_neg h, if_neg h]
  unfold COM
  rw [a, b]
theorem BEG_agr {f f2 : Nat → Int64} {g g2 : Nat → Int32} {c : Int} (e : ∀ j : Nat, (j : Int) < c → f2 j = f j ∧ g2 j = g j) {i : Nat} (hi : (i : Int) < c) : BEG f2 g2 c i = BEG f g c i := by
  unfold BEG
  rw [COM_agr e hi, (e i hi).2]
def LD (il : Int32) (cm bg : Nat → Int32) (ks : Nat → Int64) (ls : Nat → Int32) (n9 : Int32) : Prop := il.toInt ≠ 0 → ∀ i : Nat, (i : Int) < n9.toInt → (cm i).toInt = (COM (fun j => ks (64 + j)) (fun j => ls (64 + j)) n9.toInt i : Nat) ∧ (bg i).toInt = (BEG (fun j => ks (64 + j)) (fun j => ls (64 + j)) n9.toInt i : Nat)
theorem LD_rows {il n9 : Int32} {cm bg : Nat → Int32} {ks ks2 : Nat → Int64} {ls ls2 : Nat → Int32} (hn : n9.toInt ≤ 64) (h : LD il cm bg ks ls n9) (e : ∀ j : Nat, j < 64 → ks2 (64 + j) = ks (64 + j) ∧ ls2 (64 + j) = ls (64 + j)) : LD il cm bg ks2 ls2 n9 := by
  intro hi i hlt
  have a : ∀ j : Nat, (j : Int) < n9.toInt → (fun j => ks2 (64 + j)) j = (fun j => ks (64 + j)) j ∧ (fun j => ls2 (64 + j)) j = (fun j => ls (64 + j)) j := fun j hj => e j (by omega)
  rw [COM_agr a hlt, BEG_agr a hlt]
  exact h hi i hlt
theorem LD_0 {il n9 : Int32} {cm bg : Nat → Int32} {ks : Nat → Int64} {ls : Nat → Int32} (h : il.toInt = 0) : LD il cm bg ks ls n9 := fun hi => absurd h hi
def NW (f : Nat → Int32) : Prop := (-4 ≤ (f 1).toInt ∧ (f 1).toInt ≤ 4) ∧ (-3 ≤ (f 4).toInt ∧ (f 4).toInt ≤ 252) ∧ (0 ≤ (f 8).toInt ∧ (f 8).toInt ≤ 64) ∧ (0 ≤ (f 9).toInt ∧ (f 9).toInt ≤ 64) ∧ (0 ≤ (f 10).toInt ∧ (f 10).toInt ≤ 16) ∧ (0 ≤ (f 12).toInt ∧ (f 12).toInt ≤ 8)
def ND (lv lf ls : Nat → Int32) (m : Int32) : Prop := ∀ x : Nat, (x : Int) < m.toInt → (0 ≤ (lv x).toInt ∧ (lv x).toInt ≤ 7 ∧ 0 ≤ (lf x).toInt ∧ (lf x).toInt ≤ 63 ∧ 1 ≤ (ls x).toInt ∧ (lf x).toInt + (ls x).toInt ≤ 64) ∧ (((x + 1 : Nat) : Int) < m.toInt → 64 * (lv x).toInt + (lf x).toInt + (ls x).toInt ≤ 64 * (lv (x + 1)).toInt + (lf (x + 1)).toInt)
def J0 (S : bT0) : Prop := (0 ≤ ((b0g_count S)).toInt ∧ ((b0g_count S)).toInt ≤ 64)
theorem J0g_count {S : bT0} (h : J0 S) : (0 ≤ ((b0g_count S)).toInt ∧ ((b0g_count S)).toInt ≤ 64) := h
theorem J0s_bytes {S : bT0} {v : (Nat → Int64)} (h : J0 S) : J0 (b0s_bytes S v) := h
theorem J0s_lengths {S : bT0} {v : (Nat → Int32)} (h : J0 S) : J0 (b0s_lengths S v) := h
theorem J0s_count {S : bT0} {v : Int32} (h : J0 S) (hv : (0 ≤ (v).toInt ∧ (v).toInt ≤ 64)) : J0 (b0s_count S v) := hv
def J3 (S : bT3) : Prop := J0 (b3g_members S)
theorem J3g_members {S : bT3} (h : J3 S) : J0 (b3g_members S) := h
theorem J3s_members {S : bT3} {v : bT0} (h : J3 S) (hv : J0 v) : J3 (b3s_members S v) := hv
theorem J3s_values {S : bT3} {v : (Nat → Int32)} (h : J3 S) : J3 (b3s_values S v) := h
theorem J3s_mode {S : bT3} {v : Int32} (h : J3 S) : J3 (b3s_mode S v) := h
def J2 (S : bT2) : Prop := J3 (b2g_told S) ∧ J3 (b2g_built S) ∧ J0 (b2g_questions S)
theorem J2g_told {S : bT2} (h : J2 S) : J3 (b2g_told S) := h.1
theorem J2g_built {S : bT2} (h : J2 S) : J3 (b2g_built S) := h.2.1
theorem J2g_questions {S : bT2} (h : J2 S) : J0 (b2g_questions S) := h.2.2
theorem J2s_told {S : bT2} {v : bT3} (h : J2 S) (hv : J3 v) : J2 (b2s_told S v) := ⟨hv, h.2.1, h.2.2⟩
theorem J2s_built {S : bT2} {v : bT3} (h : J2 S) (hv : J3 v) : J2 (b2s_built S v) := ⟨h.1, hv, h.2.2⟩
theorem J2s_questions {S : bT2} {v : bT0} (h : J2 S) (hv : J0 v) : J2 (b2s_questions S v) := ⟨h.1, h.2.1, hv⟩
theorem J2s_answers {S : bT2} {v : (Nat → Int32)} (h : J2 S) : J2 (b2s_answers S v) := ⟨h.1, h.2.1, h.2.2⟩
theorem J2s_draws {S : bT2} {v : Int32} (h : J2 S) : J2 (b2s_draws S v) := ⟨h.1, h.2.1, h.2.2⟩
def J1 (S : bT1) : Prop := J0 (b1g_owners S) ∧ J0 (b1g_lows S) ∧ J0 (b1g_highs S)
theorem J1g_owners {S : bT1} (h : J1 S) : J0 (b1g_owners S) := h.1
theorem J1g_lows {S : bT1} (h : J1 S) : J0 (b1g_lows S) := h.2.1
theorem J1g_highs {S : bT1} (h : J1 S) : J0 (b1g_highs S) := h.2.2
theorem J1s_owners {S : bT1} {v : bT0} (h : J1 S) (hv : J0 v) : J1 (b1s_owners S v) := ⟨hv, h.2.1, h.2.2⟩
theorem J1s_lows {S : bT1} {v : bT0} (h : J1 S) (hv : J0 v) : J1 (b1s_lows S v) := ⟨h.1, hv, h.2.2⟩
theorem J1s_highs {S : bT1} {v : bT0} (h : J1 S) (hv : J0 v) : J1 (b1s_highs S v) := ⟨h.1, h.2.1, hv⟩
theorem J1s_commons {S : bT1} {v : (Nat → Int32)} (h : J1 S) : J1 (b1s_commons S v) := ⟨h.1, h.2.1, h.2.2⟩
theorem J1s_lengths {S : bT1} {v : (Nat → Int32)} (h : J1 S) : J1 (b1s_lengths S v) := ⟨h.1, h.2.1, h.2.2⟩
theorem J1s_hashes {S : bT1} {v : (Nat → Int32)} (h : J1 S) : J1 (b1s_hashes S v) := ⟨h.1, h.2.1, h.2.2⟩
theorem J1s_nexts {S : bT1} {v : (Nat → Int32)} (h : J1 S) : J1 (b1s_nexts S v) := ⟨h.1, h.2.1, h.2.2⟩
theorem J1s_hashBits {S : bT1} {v : Int32} (h : J1 S) : J1 (b1s_hashBits S v) := ⟨h.1, h.2.1, h.2.2⟩
theorem J1s_realBits {S : bT1} {v : Int32} (h : J1 S) : J1 (b1s_realBits S v) := ⟨h.1, h.2.1, h.2.2⟩
theorem J1s_salt {S : bT1} {v : Int32} (h : J1 S) : J1 (b1s_salt S v) := ⟨h.1, h.2.1, h.2.2⟩
def J6 (S : bT6) : Prop := (∀ j : Nat, -1 ≤ ((b6g_edgeStarts S) j).toInt ∧ ((b6g_edgeStarts S) j).toInt ≤ 296) ∧ (0 ≤ ((b6g_nodes S)).toInt ∧ ((b6g_nodes S)).toInt ≤ 232) ∧ (0 ≤ ((b6g_edges S)).toInt ∧ ((b6g_edges S)).toInt ≤ 296) ∧ (0 ≤ ((b6g_levels S)).toInt ∧ ((b6g_levels S)).toInt ≤ 8) ∧ (-1 ≤ ((b6g_itemStart S)).toInt ∧ ((b6g_itemStart S)).toInt ≤ 296)
theorem J6g_edgeStarts {S : bT6} (h : J6 S) : (∀ j : Nat, -1 ≤ ((b6g_edgeStarts S) j).toInt ∧ ((b6g_edgeStarts S) j).toInt ≤ 296) := h.1
theorem J6g_nodes {S : bT6} (h : J6 S) : (0 ≤ ((b6g_nodes S)).toInt ∧ ((b6g_nodes S)).toInt ≤ 232) := h.2.1
theorem J6g_edges {S : bT6} (h : J6 S) : (0 ≤ ((b6g_edges S)).toInt ∧ ((b6g_edges S)).toInt ≤ 296) := h.2.2.1
theorem J6g_levels {S : bT6} (h : J6 S) : (0 ≤ ((b6g_levels S)).toInt ∧ ((b6g_levels S)).toInt ≤ 8) := h.2.2.2.1
theorem J6g_itemStart {S : bT6} (h : J6 S) : (-1 ≤ ((b6g_itemStart S)).toInt ∧ ((b6g_itemStart S)).toInt ≤ 296) := h.2.2.2.2
theorem J6s_nodeLevels {S : bT6} {v : (Nat → Int32)} (h : J6 S) : J6 (b6s_nodeLevels S v) := ⟨h.1, h.2.1, h.2.2.1, h.2.2.2.1, h.2.2.2.2⟩
theorem J6s_firstLeaves {S : bT6} {v : (Nat → Int32)} (h : J6 S) : J6 (b6s_firstLeaves S v) := ⟨h.1, h.2.1, h.2.2.1, h.2.2.2.1, h.2.2.2.2⟩
theorem J6s_leafCounts {S : bT6} {v : (Nat → Int32)} (h : J6 S) : J6 (b6s_leafCounts S v) := ⟨h.1, h.2.1, h.2.2.1, h.2.2.2.1, h.2.2.2.2⟩
theorem J6s_edgeStarts {S : bT6} {v : (Nat → Int32)} (h : J6 S) (hv : (∀ j : Nat, -1 ≤ (v j).toInt ∧ (v j).toInt ≤ 296)) : J6 (b6s_edgeStarts S v) := ⟨hv, h.2.1, h.2.2.1, h.2.2.2.1, h.2.2.2.2⟩
theorem J6s_edgeNodes {S : bT6} {v : (Nat → Int32)} (h : J6 S) : J6 (b6s_edgeNodes S v) := ⟨h.1, h.2.1, h.2.2.1, h.2.2.2.1, h.2.2.2.2⟩
theorem J6s_edgeOctets {S : bT6} {v : (Nat → Int32)} (h : J6 S) : J6 (b6s_edgeOctets S v) := ⟨h.1, h.2.1, h.2.2.1, h.2.2.2.1, h.2.2.2.2⟩
theorem J6s_edgeLeaves {S : bT6} {v : (Nat → Int32)} (h : J6 S) : J6 (b6s_edgeLeaves S v) := ⟨h.1, h.2.1, h.2.2.1, h.2.2.2.1, h.2.2.2.2⟩
theorem J6s_edgeChildren {S : bT6} {v : (Nat → Int32)} (h : J6 S) : J6 (b6s_edgeChildren S v) := ⟨h.1, h.2.1, h.2.2.1, h.2.2.2.1, h.2.2.2.2⟩
theorem J6s_levelStarts {S : bT6} {v : (Nat → Int32)} (h : J6 S) : J6 (b6s_levelStarts S v) := ⟨h.1, h.2.1, h.2.2.1, h.2.2.2.1, h.2.2.2.2⟩
theorem J6s_places {S : bT6} {v : (Nat → Int32)} (h : J6 S) : J6 (b6s_places S v) := ⟨h.1, h.2.1, h.2.2.1, h.2.2.2.1, h.2.2.2.2⟩
theorem J6s_leavesByPlace {S : bT6} {v : (Nat → Int32)} (h : J6 S) : J6 (b6s_leavesByPlace S v) := ⟨h.1, h.2.1, h.2.2.1, h.2.2.2.1, h.2.2.2.2⟩
theorem J6s_leafNodes {S : bT6} {v : (Nat → Int32)} (h : J6 S) : J6 (b6s_leafNodes S v) := ⟨h.1, h.2.1, h.2.2.1, h.2.2.2.1, h.2.2.2.2⟩
theorem J6s_nodes {S : bT6} {v : Int32} (h : J6 S) (hv : (0 ≤ (v).toInt ∧ (v).toInt ≤ 232)) : J6 (b6s_nodes S v) := ⟨h.1, hv, h.2.2.1, h.2.2.2.1, h.2.2.2.2⟩
theorem J6s_edges {S : bT6} {v : Int32} (h : J6 S) (hv : (0 ≤ (v).toInt ∧ (v).toInt ≤ 296)) : J6 (b6s_edges S v) := ⟨h.1, h.2.1, hv, h.2.2.2.1, h.2.2.2.2⟩
theorem J6s_children {S : bT6} {v : Int32} (h : J6 S) : J6 (b6s_children S v) := ⟨h.1, h.2.1, h.2.2.1, h.2.2.2.1, h.2.2.2.2⟩
theorem J6s_levels {S : bT6} {v : Int32} (h : J6 S) (hv : (0 ≤ (v).toInt ∧ (v).toInt ≤ 8)) : J6 (b6s_levels S v) := ⟨h.1, h.2.1, h.2.2.1, hv, h.2.2.2.2⟩
theorem J6s_upper {S : bT6} {v : Int32} (h : J6 S) : J6 (b6s_upper S v) := ⟨h.1, h.2.1, h.2.2.1, h.2.2.2.1, h.2.2.2.2⟩
theorem J6s_upperNodes {S : bT6} {v : Int32} (h : J6 S) : J6 (b6s_upperNodes S v) := ⟨h.1, h.2.1, h.2.2.1, h.2.2.2.1, h.2.2.2.2⟩
theorem J6s_itemStart {S : bT6} {v : Int32} (h : J6 S) (hv : (-1 ≤ (v).toInt ∧ (v).toInt ≤ 296)) : J6 (b6s_itemStart S v) := ⟨h.1, h.2.1, h.2.2.1, h.2.2.2.1, hv⟩
def J7 (S : bT7) : Prop := (0 ≤ ((b7g_count S)).toInt ∧ ((b7g_count S)).toInt ≤ 16)
theorem J7g_count {S : bT7} (h : J7 S) : (0 ≤ ((b7g_count S)).toInt ∧ ((b7g_count S)).toInt ≤ 16) := h
theorem J7s_likeHash {S : bT7} {v : (Nat → Int32)} (h : J7 S) : J7 (b7s_likeHash S v) := h
theorem J7s_likeNext {S : bT7} {v : (Nat → Int32)} (h : J7 S) : J7 (b7s_likeNext S v) := h
theorem J7s_count {S : bT7} {v : Int32} (h : J7 S) (hv : (0 ≤ (v).toInt ∧ (v).toInt ≤ 16)) : J7 (b7s_count S v) := hv
theorem J7s_hashBits {S : bT7} {v : Int32} (h : J7 S) : J7 (b7s_hashBits S v) := h
theorem J7s_realBits {S : bT7} {v : Int32} (h : J7 S) : J7 (b7s_realBits S v) := h
theorem J7s_falsely {S : bT7} {v : Int32} (h : J7 S) : J7 (b7s_falsely S v) := h
def J4 (S : bT4) : Prop := (0 ≤ ((b4g_count S)).toInt ∧ ((b4g_count S)).toInt ≤ 160)
theorem J4g_count {S : bT4} (h : J4 S) : (0 ≤ ((b4g_count S)).toInt ∧ ((b4g_count S)).toInt ≤ 160) := h
theorem J4s_octets {S : bT4} {v : (Nat → Int32)} (h : J4 S) : J4 (b4s_octets S v) := h
theorem J4s_count {S : bT4} {v : Int32} (h : J4 S) (hv : (0 ≤ (v).toInt ∧ (v).toInt ≤ 160)) : J4 (b4s_count S v) := hv
def J5 (S : bT5) : Prop := (0 ≤ ((b5g_length S)).toInt ∧ ((b5g_length S)).toInt ≤ 128)
theorem J5g_length {S : bT5} (h : J5 S) : (0 ≤ ((b5g_length S)).toInt ∧ ((b5g_length S)).toInt ≤ 128) := h
theorem J5s_signs {S : bT5} {v : (Nat → Int32)} (h : J5 S) : J5 (b5s_signs S v) := h
theorem J5s_length {S : bT5} {v : Int32} (h : J5 S) (hv : (0 ≤ (v).toInt ∧ (v).toInt ≤ 128)) : J5 (b5s_length S v) := hv
def J8 (S : bT8) : Prop := J2 (b8g_now S) ∧ J2 (b8g_kept S) ∧ bf_bool ((b8g_isKept S)) ∧ J1 (b8g_leaves S) ∧ J6 (b8g_tree S) ∧ J7 (b8g_tuning S) ∧ J0 (b8g_trial S) ∧ J4 (b8g_tape S) ∧ J5 (b8g_text S)
theorem J8g_now {S : bT8} (h : J8 S) : J2 (b8g_now S) := h.1
theorem J8g_kept {S : bT8} (h : J8 S) : J2 (b8g_kept S) := h.2.1
theorem J8g_isKept {S : bT8} (h : J8 S) : bf_bool ((b8g_isKept S)) := h.2.2.1
theorem J8g_leaves {S : bT8} (h : J8 S) : J1 (b8g_leaves S) := h.2.2.2.1
theorem J8g_tree {S : bT8} (h : J8 S) : J6 (b8g_tree S) := h.2.2.2.2.1
theorem J8g_tuning {S : bT8} (h : J8 S) : J7 (b8g_tuning S) := h.2.2.2.2.2.1
theorem J8g_trial {S : bT8} (h : J8 S) : J0 (b8g_trial S) := h.2.2.2.2.2.2.1
theorem J8g_tape {S : bT8} (h : J8 S) : J4 (b8g_tape S) := h.2.2.2.2.2.2.2.1
theorem J8g_text {S : bT8} (h : J8 S) : J5 (b8g_text S) := h.2.2.2.2.2.2.2.2
theorem J8s_now {S : bT8} {v : bT2} (h : J8 S) (hv : J2 v) : J8 (b8s_now S v) := ⟨hv, h.2.1, h.2.2.1, h.2.2.2.1, h.2.2.2.2.1, h.2.2.2.2.2.1, h.2.2.2.2.2.2.1, h.2.2.2.2.2.2.2.1, h.2.2.2.2.2.2.2.2⟩
theorem J8s_kept {S : bT8} {v : bT2} (h : J8 S) (hv : J2 v) : J8 (b8s_kept S v) := ⟨h.1, hv, h.2.2.1, h.2.2.2.1, h.2.2.2.2.1, h.2.2.2.2.2.1, h.2.2.2.2.2.2.1, h.2.2.2.2.2.2.2.1, h.2.2.2.2.2.2.2.2⟩
theorem J8s_isKept {S : bT8} {v : Int32} (h : J8 S) (hv : bf_bool (v)) : J8 (b8s_isKept S v) := ⟨h.1, h.2.1, hv, h.2.2.2.1, h.2.2.2.2.1, h.2.2.2.2.2.1, h.2.2.2.2.2.2.1, h.2.2.2.2.2.2.2.1, h.2.2.2.2.2.2.2.2⟩
theorem J8s_leaves {S : bT8} {v : bT1} (h : J8 S) (hv : J1 v) : J8 (b8s_leaves S v) := ⟨h.1, h.2.1, h.2.2.1, hv, h.2.2.2.2.1, h.2.2.2.2.2.1, h.2.2.2.2.2.2.1, h.2.2.2.2.2.2.2.1, h.2.2.2.2.2.2.2.2⟩
theorem J8s_tree {S : bT8} {v : bT6} (h : J8 S) (hv : J6 v) : J8 (b8s_tree S v) := ⟨h.1, h.2.1, h.2.2.1, h.2.2.2.1, hv, h.2.2.2.2.2.1, h.2.2.2.2.2.2.1, h.2.2.2.2.2.2.2.1, h.2.2.2.2.2.2.2.2⟩
theorem J8s_tuning {S : bT8} {v : bT7} (h : J8 S) (hv : J7 v) : J8 (b8s_tuning S v) := ⟨h.1, h.2.1, h.2.2.1, h.2.2.2.1, h.2.2.2.2.1, hv, h.2.2.2.2.2.2.1, h.2.2.2.2.2.2.2.1, h.2.2.2.2.2.2.2.2⟩
theorem J8s_trial {S : bT8} {v : bT0} (h : J8 S) (hv : J0 v) : J8 (b8s_trial S v) := ⟨h.1, h.2.1, h.2.2.1, h.2.2.2.1, h.2.2.2.2.1, h.2.2.2.2.2.1, hv, h.2.2.2.2.2.2.2.1, h.2.2.2.2.2.2.2.2⟩
theorem J8s_tape {S : bT8} {v : bT4} (h : J8 S) (hv : J4 v) : J8 (b8s_tape S v) := ⟨h.1, h.2.1, h.2.2.1, h.2.2.2.1, h.2.2.2.2.1, h.2.2.2.2.2.1, h.2.2.2.2.2.2.1, hv, h.2.2.2.2.2.2.2.2⟩
theorem J8s_text {S : bT8} {v : bT5} (h : J8 S) (hv : J5 v) : J8 (b8s_text S v) := ⟨h.1, h.2.1, h.2.2.1, h.2.2.2.1, h.2.2.2.2.1, h.2.2.2.2.2.1, h.2.2.2.2.2.2.1, h.2.2.2.2.2.2.2.1, hv⟩
theorem J8s_chosenRow {S : bT8} {v : Int32} (h : J8 S) : J8 (b8s_chosenRow S v) := ⟨h.1, h.2.1, h.2.2.1, h.2.2.2.1, h.2.2.2.2.1, h.2.2.2.2.2.1, h.2.2.2.2.2.2.1, h.2.2.2.2.2.2.2.1, h.2.2.2.2.2.2.2.2⟩
def K9 (S : bT9) : Prop := NW (b9g_now S) ∧ (∀ j : Nat, 0 ≤ ((b9g_lengths S) j).toInt ∧ ((b9g_lengths S) j).toInt ≤ 8) ∧ (0 ≤ ((b9g_drawnLength S)).toInt ∧ ((b9g_drawnLength S)).toInt ≤ 8) ∧ (0 ≤ ((b9g_taped S)).toInt ∧ ((b9g_taped S)).toInt ≤ 160) ∧ ((b9g_names S) = nmF56) ∧ (∀ j : Nat, 0 ≤ ((b9g_common S) j).toInt ∧ ((b9g_common S) j).toInt ≤ 8) ∧ (∀ j : Nat, 0 ≤ ((b9g_beginning S) j).toInt ∧ ((b9g_beginning S) j).toInt ≤ 8) ∧ ND (b9g_nodeLevel S) (b9g_nodeLeaf S) (b9g_nodeLeaves S) (b9g_nodeMany S) ∧ (0 ≤ ((b9g_nodeMany S)).toInt ∧ ((b9g_nodeMany S)).toInt ≤ 512) ∧ (0 ≤ ((b9g_levelMany S)).toInt ∧ ((b9g_levelMany S)).toInt ≤ 8) ∧ (0 ≤ ((b9g_upperNodes S)).toInt ∧ ((b9g_upperNodes S)).toInt ≤ 512) ∧ (0 ≤ ((b9g_itemMany S)).toInt ∧ ((b9g_itemMany S)).toInt ≤ 700) ∧ (0 ≤ ((b9g_places S)).toInt ∧ ((b9g_places S)).toInt ≤ 64) ∧ (0 ≤ ((b9g_oneMany S)).toInt ∧ ((b9g_oneMany S)).toInt ≤ 700) ∧ (0 ≤ ((b9g_signMany S)).toInt ∧ ((b9g_signMany S)).toInt ≤ 200) ∧ NW (b9g_images S) ∧ (∀ j : Nat, 0 ≤ ((b9g_lengthImages S) j).toInt ∧ ((b9g_lengthImages S) j).toInt ≤ 8)
theorem K9g_now {S : bT9} (h : K9 S) : NW (b9g_now S) := h.1
theorem K9g_lengths {S : bT9} (h : K9 S) : (∀ j : Nat, 0 ≤ ((b9g_lengths S) j).toInt ∧ ((b9g_lengths S) j).toInt ≤ 8) := h.2.1
theorem K9g_drawnLength {S : bT9} (h : K9 S) : (0 ≤ ((b9g_drawnLength S)).toInt ∧ ((b9g_drawnLength S)).toInt ≤ 8) := h.2.2.1
theorem K9g_taped {S : bT9} (h : K9 S) : (0 ≤ ((b9g_taped S)).toInt ∧ ((b9g_taped S)).toInt ≤ 160) := h.2.2.2.1
theorem K9g_names {S : bT9} (h : K9 S) : ((b9g_names S) = nmF56) := h.2.2.2.2.1
theorem K9g_common {S : bT9} (h : K9 S) : (∀ j : Nat, 0 ≤ ((b9g_common S) j).toInt ∧ ((b9g_common S) j).toInt ≤ 8) := h.2.2.2.2.2.1
theorem K9g_beginning {S : bT9} (h : K9 S) : (∀ j : Nat, 0 ≤ ((b9g_beginning S) j).toInt ∧ ((b9g_beginning S) j).toInt ≤ 8) := h.2.2.2.2.2.2.1
theorem K9g_ND {S : bT9} (h : K9 S) : ND (b9g_nodeLevel S) (b9g_nodeLeaf S) (b9g_nodeLeaves S) (b9g_nodeMany S) := h.2.2.2.2.2.2.2.1
theorem K9g_nodeMany {S : bT9} (h : K9 S) : (0 ≤ ((b9g_nodeMany S)).toInt ∧ ((b9g_nodeMany S)).toInt ≤ 512) := h.2.2.2.2.2.2.2.2.1
theorem K9g_levelMany {S : bT9} (h : K9 S) : (0 ≤ ((b9g_levelMany S)).toInt ∧ ((b9g_levelMany S)).toInt ≤ 8) := h.2.2.2.2.2.2.2.2.2.1
theorem K9g_upperNodes {S : bT9} (h : K9 S) : (0 ≤ ((b9g_upperNodes S)).toInt ∧ ((b9g_upperNodes S)).toInt ≤ 512) := h.2.2.2.2.2.2.2.2.2.2.1
theorem K9g_itemMany {S : bT9} (h : K9 S) : (0 ≤ ((b9g_itemMany S)).toInt ∧ ((b9g_itemMany S)).toInt ≤ 700) := h.2.2.2.2.2.2.2.2.2.2.2.1
theorem K9g_places {S : bT9} (h : K9 S) : (0 ≤ ((b9g_places S)).toInt ∧ ((b9g_places S)).toInt ≤ 64) := h.2.2.2.2.2.2.2.2.2.2.2.2.1
theorem K9g_oneMany {S : bT9} (h : K9 S) : (0 ≤ ((b9g_oneMany S)).toInt ∧ ((b9g_oneMany S)).toInt ≤ 700) := h.2.2.2.2.2.2.2.2.2.2.2.2.2.1
theorem K9g_signMany {S : bT9} (h : K9 S) : (0 ≤ ((b9g_signMany S)).toInt ∧ ((b9g_signMany S)).toInt ≤ 200) := h.2.2.2.2.2.2.2.2.2.2.2.2.2.2.1
theorem K9g_images {S : bT9} (h : K9 S) : NW (b9g_images S) := h.2.2.2.2.2.2.2.2.2.2.2.2.2.2.2.1
theorem K9g_lengthImages {S : bT9} (h : K9 S) : (∀ j : Nat, 0 ≤ ((b9g_lengthImages S) j).toInt ∧ ((b9g_lengthImages S) j).toInt ≤ 8) := h.2.2.2.2.2.2.2.2.2.2.2.2.2.2.2.2
def J9 (S : bT9) : Prop := K9 S ∧ (b9g_upperNodes S).toInt ≤ (b9g_nodeMany S).toInt ∧ LD (b9g_isLaid S) (b9g_common S) (b9g_beginning S) (b9g_keys S) (b9g_lengths S) (b9g_now S 9)
theorem J9g_now {S : bT9} (h : J9 S) : NW (b9g_now S) := h.1.1
theorem J9g_lengths {S : bT9} (h : J9 S) : (∀ j : Nat, 0 ≤ ((b9g_lengths S) j).toInt ∧ ((b9g_lengths S) j).toInt ≤ 8) := h.1.2.1
theorem J9g_drawnLength {S : bT9} (h : J9 S) : (0 ≤ ((b9g_drawnLength S)).toInt ∧ ((b9g_drawnLength S)).toInt ≤ 8) := h.1.2.2.1
theorem J9g_taped {S : bT9} (h : J9 S) : (0 ≤ ((b9g_taped S)).toInt ∧ ((b9g_taped S)).toInt ≤ 160) := h.1.2.2.2.1
theorem J9g_names {S : bT9} (h : J9 S) : ((b9g_names S) = nmF56) := h.1.2.2.2.2.1
theorem J9g_common {S : bT9} (h : J9 S) : (∀ j : Nat, 0 ≤ ((b9g_common S) j).toInt ∧ ((b9g_common S) j).toInt ≤ 8) := h.1.2.2.2.2.2.1
theorem J9g_beginning {S : bT9} (h : J9 S) : (∀ j : Nat, 0 ≤ ((b9g_beginning S) j).toInt ∧ ((b9g_beginning S) j).toInt ≤ 8) := h.1.2.2.2.2.2.2.1
theorem J9g_ND {S : bT9} (h : J9 S) : ND (b9g_nodeLevel S) (b9g_nodeLeaf S) (b9g_nodeLeaves S) (b9g_nodeMany S) := h.1.2.2.2.2.2.2.2.1
theorem J9g_nodeMany {S : bT9} (h : J9 S) : (0 ≤ ((b9g_nodeMany S)).toInt ∧ ((b9g_nodeMany S)).toInt ≤ 512) := h.1.2.2.2.2.2.2.2.2.1
theorem J9g_levelMany {S : bT9} (h : J9 S) : (0 ≤ ((b9g_levelMany S)).toInt ∧ ((b9g_levelMany S)).toInt ≤ 8) := h.1.2.2.2.2.2.2.2.2.2.1
theorem J9g_upperNodes {S : bT9} (h : J9 S) : (0 ≤ ((b9g_upperNodes S)).toInt ∧ ((b9g_upperNodes S)).toInt ≤ 512) := h.1.2.2.2.2.2.2.2.2.2.2.1
theorem J9g_itemMany {S : bT9} (h : J9 S) : (0 ≤ ((b9g_itemMany S)).toInt ∧ ((b9g_itemMany S)).toInt ≤ 700) := h.1.2.2.2.2.2.2.2.2.2.2.2.1
theorem J9g_places {S : bT9} (h : J9 S) : (0 ≤ ((b9g_places S)).toInt ∧ ((b9g_places S)).toInt ≤ 64) := h.1.2.2.2.2.2.2.2.2.2.2.2.2.1
theorem J9g_oneMany {S : bT9} (h : J9 S) : (0 ≤ ((b9g_oneMany S)).toInt ∧ ((b9g_oneMany S)).toInt ≤ 700) := h.1.2.2.2.2.2.2.2.2.2.2.2.2.2.1
theorem J9g_signMany {S : bT9} (h : J9 S) : (0 ≤ ((b9g_signMany S)).toInt ∧ ((b9g_signMany S)).toInt ≤ 200) := h.1.2.2.2.2.2.2.2.2.2.2.2.2.2.2.1
theorem J9g_images {S : bT9} (h : J9 S) : NW (b9g_images S) := h.1.2.2.2.2.2.2.2.2.2.2.2.2.2.2.2.1
theorem J9g_lengthImages {S : bT9} (h : J9 S) : (∀ j : Nat, 0 ≤ ((b9g_lengthImages S) j).toInt ∧ ((b9g_lengthImages S) j).toInt ≤ 8) := h.1.2.2.2.2.2.2.2.2.2.2.2.2.2.2.2.2
theorem K9s_told {S : bT9} {v : Int32} (h : K9 S) : K9 (b9s_told S v) := ⟨h.1, h.2.1, h.2.2.1, h.2.2.2.1, h.2.2.2.2.1, h.2.2.2.2.2.1, h.2.2.2.2.2.2.1, h.2.2.2.2.2.2.2.1, h.2.2.2.2.2.2.2.2.1, h.2.2.2.2.2.2.2.2.2.1, h.2.2.2.2.2.2.2.2.2.2.1, h.2.2.2.2.2.2.2.2.2.2.2.1, h.2.2.2.2.2.2.2.2.2.2.2.2.1, h.2.2.2.2.2.2.2.2.2.2.2.2.2.1, h.2.2.2.2.2.2.2.2.2.2.2.2.2.2.1, h.2.2.2.2.2.2.2.2.2.2.2.2.2.2.2.1, h.2.2.2.2.2.2.2.2.2.2.2.2.2.2.2.2⟩
theorem J9s_told {S : bT9} {v : Int32} (h : J9 S) : J9 (b9s_told S v) := ⟨K9s_told h.1, h.2⟩
theorem K9s_now {S : bT9} {v : (Nat → Int32)} (h : K9 S) (hv : NW v) : K9 (b9s_now S v) := ⟨hv, h.2.1, h.2.2.1, h.2.2.2.1, h.2.2.2.2.1, h.2.2.2.2.2.1, h.2.2.2.2.2.2.1, h.2.2.2.2.2.2.2.1, h.2.2.2.2.2.2.2.2.1, h.2.2.2.2.2.2.2.2.2.1, h.2.2.2.2.2.2.2.2.2.2.1, h.2.2.2.2.2.2.2.2.2.2.2.1, h.2.2.2.2.2.2.2.2.2.2.2.2.1, h.2.2.2.2.2.2.2.2.2.2.2.2.2.1, h.2.2.2.2.2.2.2.2.2.2.2.2.2.2.1, h.2.2.2.2.2.2.2.2.2.2.2.2.2.2.2.1, h.2.2.2.2.2.2.2.2.2.2.2.2.2.2.2.2⟩
theorem J9s_now {S : bT9} {v : (Nat → Int32)} (h : J9 S) (hv : NW v) (e : v 9 = b9g_now S 9) : J9 (b9s_now S v) := ⟨K9s_now h.1 hv, h.2.1, by show LD (b9g_isLaid S) (b9g_common S) (b9g_beginning S) (b9g_keys S) (b9g_lengths S) (v 9); rw [e]; exact h.2.2⟩
theorem K9s_keys {S : bT9} {v : (Nat → Int64)} (h : K9 S) : K9 (b9s_keys S v) := ⟨h.1, h.2.1, h.2.2.1, h.2.2.2.1, h.2.2.2.2.1, h.2.2.2.2.2.1, h.2.2.2.2.2.2.1, h.2.2.2.2.2.2.2.1, h.2.2.2.2.2.2.2.2.1, h.2.2.2.2.2.2.2.2.2.1, h.2.2.2.2.2.2.2.2.2.2.1, h.2.2.2.2.2.2.2.2.2.2.2.1, h.2.2.2.2.2.2.2.2.2.2.2.2.1, h.2.2.2.2.2.2.2.2.2.2.2.2.2.1, h.2.2.2.2.2.2.2.2.2.2.2.2.2.2.1, h.2.2.2.2.2.2.2.2.2.2.2.2.2.2.2.1, h.2.2.2.2.2.2.2.2.2.2.2.2.2.2.2.2⟩
theorem J9s_keys {S : bT9} {v : (Nat → Int64)} (h : J9 S) (e : ∀ j : Nat, j < 64 → v (64 + j) = b9g_keys S (64 + j)) : J9 (b9s_keys S v) := ⟨K9s_keys h.1, h.2.1, LD_rows (J9g_now h).2.2.2.1.2 h.2.2 (fun j hj => ⟨e j hj, rfl⟩)⟩
theorem K9s_lengths {S : bT9} {v : (Nat → Int32)} (h : K9 S) (hv : (∀ j : Nat, 0 ≤ (v j).toInt ∧ (v j).toInt ≤ 8)) : K9 (b9s_lengths S v) := ⟨h.1, hv, h.2.2.1, h.2.2.2.1, h.2.2.2.2.1, h.2.2.2.2.2.1, h.2.2.2.2.2.2.1, h.2.2.2.2.2.2.2.1, h.2.2.2.2.2.2.2.2.1, h.2.2.2.2.2.2.2.2.2.1, h.2.2.2.2.2.2.2.2.2.2.1, h.2.2.2.2.2.2.2.2.2.2.2.1, h.2.2.2.2.2.2.2.2.2.2.2.2.1, h.2.2.2.2.2.2.2.2.2.2.2.2.2.1, h.2.2.2.2.2.2.2.2.2.2.2.2.2.2.1, h.2.2.2.2.2.2.2.2.2.2.2.2.2.2.2.1, h.2.2.2.2.2.2.2.2.2.2.2.2.2.2.2.2⟩
theorem J9s_lengths {S : bT9} {v : (Nat → Int32)} (h : J9 S) (hv : (∀ j : Nat, 0 ≤ (v j).toInt ∧ (v j).toInt ≤ 8)) (e : ∀ j : Nat, j < 64 → v (64 + j) = b9g_lengths S (64 + j)) : J9 (b9s_lengths S v) := ⟨K9s_lengths h.1 hv, h.2.1, LD_rows (J9g_now h).2.2.2.1.2 h.2.2 (fun j hj => ⟨rfl, e j hj⟩)⟩
theorem K9s_drawn {S : bT9} {v : Int64} (h : K9 S) : K9 (b9s_drawn S v) := ⟨h.1, h.2.1, h.2.2.1, h.2.2.2.1, h.2.2.2.2.1, h.2.2.2.2.2.1, h.2.2.2.2.2.2.1, h.2.2.2.2.2.2.2.1, h.2.2.2.2.2.2.2.2.1, h.2.2.2.2.2.2.2.2.2.1, h.2.2.2.2.2.2.2.2.2.2.1, h.2.2.2.2.2.2.2.2.2.2.2.1, h.2.2.2.2.2.2.2.2.2.2.2.2.1, h.2.2.2.2.2.2.2.2.2.2.2.2.2.1, h.2.2.2.2.2.2.2.2.2.2.2.2.2.2.1, h.2.2.2.2.2.2.2.2.2.2.2.2.2.2.2.1, h.2.2.2.2.2.2.2.2.2.2.2.2.2.2.2.2⟩
theorem J9s_drawn {S : bT9} {v : Int64} (h : J9 S) : J9 (b9s_drawn S v) := ⟨K9s_drawn h.1, h.2⟩
theorem K9s_drawnLength {S : bT9} {v : Int32} (h : K9 S) (hv : (0 ≤ (v).toInt ∧ (v).toInt ≤ 8)) : K9 (b9s_drawnLength S v) := ⟨h.1, h.2.1, hv, h.2.2.2.1, h.2.2.2.2.1, h.2.2.2.2.2.1, h.2.2.2.2.2.2.1, h.2.2.2.2.2.2.2.1, h.2.2.2.2.2.2.2.2.1, h.2.2.2.2.2.2.2.2.2.1, h.2.2.2.2.2.2.2.2.2.2.1, h.2.2.2.2.2.2.2.2.2.2.2.1, h.2.2.2.2.2.2.2.2.2.2.2.2.1, h.2.2.2.2.2.2.2.2.2.2.2.2.2.1, h.2.2.2.2.2.2.2.2.2.2.2.2.2.2.1, h.2.2.2.2.2.2.2.2.2.2.2.2.2.2.2.1, h.2.2.2.2.2.2.2.2.2.2.2.2.2.2.2.2⟩
theorem J9s_drawnLength {S : bT9} {v : Int32} (h : J9 S) (hv : (0 ≤ (v).toInt ∧ (v).toInt ≤ 8)) : J9 (b9s_drawnLength S v) := ⟨K9s_drawnLength h.1 hv, h.2⟩
theorem K9s_tape {S : bT9} {v : (Nat → Int32)} (h : K9 S) : K9 (b9s_tape S v) := ⟨h.1, h.2.1, h.2.2.1, h.2.2.2.1, h.2.2.2.2.1, h.2.2.2.2.2.1, h.2.2.2.2.2.2.1, h.2.2.2.2.2.2.2.1, h.2.2.2.2.2.2.2.2.1, h.2.2.2.2.2.2.2.2.2.1, h.2.2.2.2.2.2.2.2.2.2.1, h.2.2.2.2.2.2.2.2.2.2.2.1, h.2.2.2.2.2.2.2.2.2.2.2.2.1, h.2.2.2.2.2.2.2.2.2.2.2.2.2.1, h.2.2.2.2.2.2.2.2.2.2.2.2.2.2.1, h.2.2.2.2.2.2.2.2.2.2.2.2.2.2.2.1, h.2.2.2.2.2.2.2.2.2.2.2.2.2.2.2.2⟩
theorem J9s_tape {S : bT9} {v : (Nat → Int32)} (h : J9 S) : J9 (b9s_tape S v) := ⟨K9s_tape h.1, h.2⟩
theorem K9s_taped {S : bT9} {v : Int32} (h : K9 S) (hv : (0 ≤ (v).toInt ∧ (v).toInt ≤ 160)) : K9 (b9s_taped S v) := ⟨h.1, h.2.1, h.2.2.1, hv, h.2.2.2.2.1, h.2.2.2.2.2.1, h.2.2.2.2.2.2.1, h.2.2.2.2.2.2.2.1, h.2.2.2.2.2.2.2.2.1, h.2.2.2.2.2.2.2.2.2.1, h.2.2.2.2.2.2.2.2.2.2.1, h.2.2.2.2.2.2.2.2.2.2.2.1, h.2.2.2.2.2.2.2.2.2.2.2.2.1, h.2.2.2.2.2.2.2.2.2.2.2.2.2.1, h.2.2.2.2.2.2.2.2.2.2.2.2.2.2.1, h.2.2.2.2.2.2.2.2.2.2.2.2.2.2.2.1, h.2.2.2.2.2.2.2.2.2.2.2.2.2.2.2.2⟩
theorem J9s_taped {S : bT9} {v : Int32} (h : J9 S) (hv : (0 ≤ (v).toInt ∧ (v).toInt ≤ 160)) : J9 (b9s_taped S v) := ⟨K9s_taped h.1 hv, h.2⟩
theorem K9s_names {S : bT9} {v : (Nat → Int32)} (h : K9 S) (hv : (v = nmF56)) : K9 (b9s_names S v) := ⟨h.1, h.2.1, h.2.2.1, h.2.2.2.1, hv, h.2.2.2.2.2.1, h.2.2.2.2.2.2.1, h.2.2.2.2.2.2.2.1, h.2.2.2.2.2.2.2.2.1, h.2.2.2.2.2.2.2.2.2.1, h.2.2.2.2.2.2.2.2.2.2.1, h.2.2.2.2.2.2.2.2.2.2.2.1, h.2.2.2.2.2.2.2.2.2.2.2.2.1, h.2.2.2.2.2.2.2.2.2.2.2.2.2.1, h.2.2.2.2.2.2.2.2.2.2.2.2.2.2.1, h.2.2.2.2.2.2.2.2.2.2.2.2.2.2.2.1, h.2.2.2.2.2.2.2.2.2.2.2.2.2.2.2.2⟩
theorem J9s_names {S : bT9} {v : (Nat → Int32)} (h : J9 S) (hv : (v = nmF56)) : J9 (b9s_names S v) := ⟨K9s_names h.1 hv, h.2⟩
theorem K9s_chosen {S : bT9} {v : Int32} (h : K9 S) : K9 (b9s_chosen S v) := ⟨h.1, h.2.1, h.2.2.1, h.2.2.2.1, h.2.2.2.2.1, h.2.2.2.2.2.1, h.2.2.2.2.2.2.1, h.2.2.2.2.2.2.2.1, h.2.2.2.2.2.2.2.2.1, h.2.2.2.2.2.2.2.2.2.1, h.2.2.2.2.2.2.2.2.2.2.1, h.2.2.2.2.2.2.2.2.2.2.2.1, h.2.2.2.2.2.2.2.2.2.2.2.2.1, h.2.2.2.2.2.2.2.2.2.2.2.2.2.1, h.2.2.2.2.2.2.2.2.2.2.2.2.2.2.1, h.2.2.2.2.2.2.2.2.2.2.2.2.2.2.2.1, h.2.2.2.2.2.2.2.2.2.2.2.2.2.2.2.2⟩
theorem J9s_chosen {S : bT9} {v : Int32} (h : J9 S) : J9 (b9s_chosen S v) := ⟨K9s_chosen h.1, h.2⟩
theorem K9s_common {S : bT9} {v : (Nat → Int32)} (h : K9 S) (hv : (∀ j : Nat, 0 ≤ (v j).toInt ∧ (v j).toInt ≤ 8)) : K9 (b9s_common S v) := ⟨h.1, h.2.1, h.2.2.1, h.2.2.2.1, h.2.2.2.2.1, hv, h.2.2.2.2.2.2.1, h.2.2.2.2.2.2.2.1, h.2.2.2.2.2.2.2.2.1, h.2.2.2.2.2.2.2.2.2.1, h.2.2.2.2.2.2.2.2.2.2.1, h.2.2.2.2.2.2.2.2.2.2.2.1, h.2.2.2.2.2.2.2.2.2.2.2.2.1, h.2.2.2.2.2.2.2.2.2.2.2.2.2.1, h.2.2.2.2.2.2.2.2.2.2.2.2.2.2.1, h.2.2.2.2.2.2.2.2.2.2.2.2.2.2.2.1, h.2.2.2.2.2.2.2.2.2.2.2.2.2.2.2.2⟩
theorem J9s_common {S : bT9} {v : (Nat → Int32)} (h : J9 S) (hv : (∀ j : Nat, 0 ≤ (v j).toInt ∧ (v j).toInt ≤ 8)) (hl : LD (b9g_isLaid S) v (b9g_beginning S) (b9g_keys S) (b9g_lengths S) (b9g_now S 9)) : J9 (b9s_common S v) := ⟨K9s_common h.1 hv, h.2.1, hl⟩
theorem K9s_beginning {S : bT9} {v : (Nat → Int32)} (h : K9 S) (hv : (∀ j : Nat, 0 ≤ (v j).toInt ∧ (v j).toInt ≤ 8)) : K9 (b9s_beginning S v) := ⟨h.1, h.2.1, h.2.2.1, h.2.2.2.1, h.2.2.2.2.1, h.2.2.2.2.2.1, hv, h.2.2.2.2.2.2.2.1, h.2.2.2.2.2.2.2.2.1, h.2.2.2.2.2.2.2.2.2.1, h.2.2.2.2.2.2.2.2.2.2.1, h.2.2.2.2.2.2.2.2.2.2.2.1, h.2.2.2.2.2.2.2.2.2.2.2.2.1, h.2.2.2.2.2.2.2.2.2.2.2.2.2.1, h.2.2.2.2.2.2.2.2.2.2.2.2.2.2.1, h.2.2.2.2.2.2.2.2.2.2.2.2.2.2.2.1, h.2.2.2.2.2.2.2.2.2.2.2.2.2.2.2.2⟩
theorem J9s_beginning {S : bT9} {v : (Nat → Int32)} (h : J9 S) (hv : (∀ j : Nat, 0 ≤ (v j).toInt ∧ (v j).toInt ≤ 8)) (hl : LD (b9g_isLaid S) (b9g_common S) v (b9g_keys S) (b9g_lengths S) (b9g_now S 9)) : J9 (b9s_beginning S v) := ⟨K9s_beginning h.1 hv, h.2.1, hl⟩
theorem K9s_isLaid {S : bT9} {v : Int32} (h : K9 S) : K9 (b9s_isLaid S v) := ⟨h.1, h.2.1, h.2.2.1, h.2.2.2.1, h.2.2.2.2.1, h.2.2.2.2.2.1, h.2.2.2.2.2.2.1, h.2.2.2.2.2.2.2.1, h.2.2.2.2.2.2.2.2.1, h.2.2.2.2.2.2.2.2.2.1, h.2.2.2.2.2.2.2.2.2.2.1, h.2.2.2.2.2.2.2.2.2.2.2.1, h.2.2.2.2.2.2.2.2.2.2.2.2.1, h.2.2.2.2.2.2.2.2.2.2.2.2.2.1, h.2.2.2.2.2.2.2.2.2.2.2.2.2.2.1, h.2.2.2.2.2.2.2.2.2.2.2.2.2.2.2.1, h.2.2.2.2.2.2.2.2.2.2.2.2.2.2.2.2⟩
theorem J9s_isLaid {S : bT9} {v : Int32} (h : J9 S) (hl : LD v (b9g_common S) (b9g_beginning S) (b9g_keys S) (b9g_lengths S) (b9g_now S 9)) : J9 (b9s_isLaid S v) := ⟨K9s_isLaid h.1, h.2.1, hl⟩
theorem K9s_nodeLevel {S : bT9} {v : (Nat → Int32)} (h : K9 S) (hn : ND v (b9g_nodeLeaf S) (b9g_nodeLeaves S) (b9g_nodeMany S)) : K9 (b9s_nodeLevel S v) := ⟨h.1, h.2.1, h.2.2.1, h.2.2.2.1, h.2.2.2.2.1, h.2.2.2.2.2.1, h.2.2.2.2.2.2.1, hn, h.2.2.2.2.2.2.2.2.1, h.2.2.2.2.2.2.2.2.2.1, h.2.2.2.2.2.2.2.2.2.2.1, h.2.2.2.2.2.2.2.2.2.2.2.1, h.2.2.2.2.2.2.2.2.2.2.2.2.1, h.2.2.2.2.2.2.2.2.2.2.2.2.2.1, h.2.2.2.2.2.2.2.2.2.2.2.2.2.2.1, h.2.2.2.2.2.2.2.2.2.2.2.2.2.2.2.1, h.2.2.2.2.2.2.2.2.2.2.2.2.2.2.2.2⟩
theorem K9s_nodeLeaf {S : bT9} {v : (Nat → Int32)} (h : K9 S) (hn : ND (b9g_nodeLevel S) v (b9g_nodeLeaves S) (b9g_nodeMany S)) : K9 (b9s_nodeLeaf S v) := ⟨h.1, h.2.1, h.2.2.1, h.2.2.2.1, h.2.2.2.2.1, h.2.2.2.2.2.1, h.2.2.2.2.2.2.1, hn, h.2.2.2.2.2.2.2.2.1, h.2.2.2.2.2.2.2.2.2.1, h.2.2.2.2.2.2.2.2.2.2.1, h.2.2.2.2.2.2.2.2.2.2.2.1, h.2.2.2.2.2.2.2.2.2.2.2.2.1, h.2.2.2.2.2.2.2.2.2.2.2.2.2.1, h.2.2.2.2.2.2.2.2.2.2.2.2.2.2.1, h.2.2.2.2.2.2.2.2.2.2.2.2.2.2.2.1, h.2.2.2.2.2.2.2.2.2.2.2.2.2.2.2.2⟩
theorem K9s_nodeLeaves {S : bT9} {v : (Nat → Int32)} (h : K9 S) (hn : ND (b9g_nodeLevel S) (b9g_nodeLeaf S) v (b9g_nodeMany S)) : K9 (b9s_nodeLeaves S v) := ⟨h.1, h.2.1, h.2.2.1, h.2.2.2.1, h.2.2.2.2.1, h.2.2.2.2.2.1, h.2.2.2.2.2.2.1, hn, h.2.2.2.2.2.2.2.2.1, h.2.2.2.2.2.2.2.2.2.1, h.2.2.2.2.2.2.2.2.2.2.1, h.2.2.2.2.2.2.2.2.2.2.2.1, h.2.2.2.2.2.2.2.2.2.2.2.2.1, h.2.2.2.2.2.2.2.2.2.2.2.2.2.1, h.2.2.2.2.2.2.2.2.2.2.2.2.2.2.1, h.2.2.2.2.2.2.2.2.2.2.2.2.2.2.2.1, h.2.2.2.2.2.2.2.2.2.2.2.2.2.2.2.2⟩
theorem K9s_nodeMany {S : bT9} {v : Int32} (h : K9 S) (hv : (0 ≤ (v).toInt ∧ (v).toInt ≤ 512)) (hn : ND (b9g_nodeLevel S) (b9g_nodeLeaf S) (b9g_nodeLeaves S) v) : K9 (b9s_nodeMany S v) := ⟨h.1, h.2.1, h.2.2.1, h.2.2.2.1, h.2.2.2.2.1, h.2.2.2.2.2.1, h.2.2.2.2.2.2.1, hn, hv, h.2.2.2.2.2.2.2.2.2.1, h.2.2.2.2.2.2.2.2.2.2.1, h.2.2.2.2.2.2.2.2.2.2.2.1, h.2.2.2.2.2.2.2.2.2.2.2.2.1, h.2.2.2.2.2.2.2.2.2.2.2.2.2.1, h.2.2.2.2.2.2.2.2.2.2.2.2.2.2.1, h.2.2.2.2.2.2.2.2.2.2.2.2.2.2.2.1, h.2.2.2.2.2.2.2.2.2.2.2.2.2.2.2.2⟩
theorem K9s_levelMany {S : bT9} {v : Int32} (h : K9 S) (hv : (0 ≤ (v).toInt ∧ (v).toInt ≤ 8)) : K9 (b9s_levelMany S v) := ⟨h.1, h.2.1, h.2.2.1, h.2.2.2.1, h.2.2.2.2.1, h.2.2.2.2.2.1, h.2.2.2.2.2.2.1, h.2.2.2.2.2.2.2.1, h.2.2.2.2.2.2.2.2.1, hv, h.2.2.2.2.2.2.2.2.2.2.1, h.2.2.2.2.2.2.2.2.2.2.2.1, h.2.2.2.2.2.2.2.2.2.2.2.2.1, h.2.2.2.2.2.2.2.2.2.2.2.2.2.1, h.2.2.2.2.2.2.2.2.2.2.2.2.2.2.1, h.2.2.2.2.2.2.2.2.2.2.2.2.2.2.2.1, h.2.2.2.2.2.2.2.2.2.2.2.2.2.2.2.2⟩
theorem J9s_levelMany {S : bT9} {v : Int32} (h : J9 S) (hv : (0 ≤ (v).toInt ∧ (v).toInt ≤ 8)) : J9 (b9s_levelMany S v) := ⟨K9s_levelMany h.1 hv, h.2⟩
theorem K9s_upper {S : bT9} {v : Int32} (h : K9 S) : K9 (b9s_upper S v) := ⟨h.1, h.2.1, h.2.2.1, h.2.2.2.1, h.2.2.2.2.1, h.2.2.2.2.2.1, h.2.2.2.2.2.2.1, h.2.2.2.2.2.2.2.1, h.2.2.2.2.2.2.2.2.1, h.2.2.2.2.2.2.2.2.2.1, h.2.2.2.2.2.2.2.2.2.2.1, h.2.2.2.2.2.2.2.2.2.2.2.1, h.2.2.2.2.2.2.2.2.2.2.2.2.1, h.2.2.2.2.2.2.2.2.2.2.2.2.2.1, h.2.2.2.2.2.2.2.2.2.2.2.2.2.2.1, h.2.2.2.2.2.2.2.2.2.2.2.2.2.2.2.1, h.2.2.2.2.2.2.2.2.2.2.2.2.2.2.2.2⟩
theorem J9s_upper {S : bT9} {v : Int32} (h : J9 S) : J9 (b9s_upper S v) := ⟨K9s_upper h.1, h.2⟩
theorem K9s_upperNodes {S : bT9} {v : Int32} (h : K9 S) (hv : (0 ≤ (v).toInt ∧ (v).toInt ≤ 512)) : K9 (b9s_upperNodes S v) := ⟨h.1, h.2.1, h.2.2.1, h.2.2.2.1, h.2.2.2.2.1, h.2.2.2.2.2.1, h.2.2.2.2.2.2.1, h.2.2.2.2.2.2.2.1, h.2.2.2.2.2.2.2.2.1, h.2.2.2.2.2.2.2.2.2.1, hv, h.2.2.2.2.2.2.2.2.2.2.2.1, h.2.2.2.2.2.2.2.2.2.2.2.2.1, h.2.2.2.2.2.2.2.2.2.2.2.2.2.1, h.2.2.2.2.2.2.2.2.2.2.2.2.2.2.1, h.2.2.2.2.2.2.2.2.2.2.2.2.2.2.2.1, h.2.2.2.2.2.2.2.2.2.2.2.2.2.2.2.2⟩
theorem K9s_areNodesLaid {S : bT9} {v : Int32} (h : K9 S) : K9 (b9s_areNodesLaid S v) := ⟨h.1, h.2.1, h.2.2.1, h.2.2.2.1, h.2.2.2.2.1, h.2.2.2.2.2.1, h.2.2.2.2.2.2.1, h.2.2.2.2.2.2.2.1, h.2.2.2.2.2.2.2.2.1, h.2.2.2.2.2.2.2.2.2.1, h.2.2.2.2.2.2.2.2.2.2.1, h.2.2.2.2.2.2.2.2.2.2.2.1, h.2.2.2.2.2.2.2.2.2.2.2.2.1, h.2.2.2.2.2.2.2.2.2.2.2.2.2.1, h.2.2.2.2.2.2.2.2.2.2.2.2.2.2.1, h.2.2.2.2.2.2.2.2.2.2.2.2.2.2.2.1, h.2.2.2.2.2.2.2.2.2.2.2.2.2.2.2.2⟩
theorem J9s_areNodesLaid {S : bT9} {v : Int32} (h : J9 S) : J9 (b9s_areNodesLaid S v) := ⟨K9s_areNodesLaid h.1, h.2⟩
theorem K9s_itemNode {S : bT9} {v : (Nat → Int32)} (h : K9 S) : K9 (b9s_itemNode S v) := ⟨h.1, h.2.1, h.2.2.1, h.2.2.2.1, h.2.2.2.2.1, h.2.2.2.2.2.1, h.2.2.2.2.2.2.1, h.2.2.2.2.2.2.2.1, h.2.2.2.2.2.2.2.2.1, h.2.2.2.2.2.2.2.2.2.1, h.2.2.2.2.2.2.2.2.2.2.1, h.2.2.2.2.2.2.2.2.2.2.2.1, h.2.2.2.2.2.2.2.2.2.2.2.2.1, h.2.2.2.2.2.2.2.2.2.2.2.2.2.1, h.2.2.2.2.2.2.2.2.2.2.2.2.2.2.1, h.2.2.2.2.2.2.2.2.2.2.2.2.2.2.2.1, h.2.2.2.2.2.2.2.2.2.2.2.2.2.2.2.2⟩
theorem J9s_itemNode {S : bT9} {v : (Nat → Int32)} (h : J9 S) : J9 (b9s_itemNode S v) := ⟨K9s_itemNode h.1, h.2⟩
theorem K9s_itemByte {S : bT9} {v : (Nat → Int32)} (h : K9 S) : K9 (b9s_itemByte S v) := ⟨h.1, h.2.1, h.2.2.1, h.2.2.2.1, h.2.2.2.2.1, h.2.2.2.2.2.1, h.2.2.2.2.2.2.1, h.2.2.2.2.2.2.2.1, h.2.2.2.2.2.2.2.2.1, h.2.2.2.2.2.2.2.2.2.1, h.2.2.2.2.2.2.2.2.2.2.1, h.2.2.2.2.2.2.2.2.2.2.2.1, h.2.2.2.2.2.2.2.2.2.2.2.2.1, h.2.2.2.2.2.2.2.2.2.2.2.2.2.1, h.2.2.2.2.2.2.2.2.2.2.2.2.2.2.1, h.2.2.2.2.2.2.2.2.2.2.2.2.2.2.2.1, h.2.2.2.2.2.2.2.2.2.2.2.2.2.2.2.2⟩
theorem J9s_itemByte {S : bT9} {v : (Nat → Int32)} (h : J9 S) : J9 (b9s_itemByte S v) := ⟨K9s_itemByte h.1, h.2⟩
theorem K9s_itemChild {S : bT9} {v : (Nat → Int32)} (h : K9 S) : K9 (b9s_itemChild S v) := ⟨h.1, h.2.1, h.2.2.1, h.2.2.2.1, h.2.2.2.2.1, h.2.2.2.2.2.1, h.2.2.2.2.2.2.1, h.2.2.2.2.2.2.2.1, h.2.2.2.2.2.2.2.2.1, h.2.2.2.2.2.2.2.2.2.1, h.2.2.2.2.2.2.2.2.2.2.1, h.2.2.2.2.2.2.2.2.2.2.2.1, h.2.2.2.2.2.2.2.2.2.2.2.2.1, h.2.2.2.2.2.2.2.2.2.2.2.2.2.1, h.2.2.2.2.2.2.2.2.2.2.2.2.2.2.1, h.2.2.2.2.2.2.2.2.2.2.2.2.2.2.2.1, h.2.2.2.2.2.2.2.2.2.2.2.2.2.2.2.2⟩
theorem J9s_itemChild {S : bT9} {v : (Nat → Int32)} (h : J9 S) : J9 (b9s_itemChild S v) := ⟨K9s_itemChild h.1, h.2⟩
theorem K9s_itemMany {S : bT9} {v : Int32} (h : K9 S) (hv : (0 ≤ (v).toInt ∧ (v).toInt ≤ 700)) : K9 (b9s_itemMany S v) := ⟨h.1, h.2.1, h.2.2.1, h.2.2.2.1, h.2.2.2.2.1, h.2.2.2.2.2.1, h.2.2.2.2.2.2.1, h.2.2.2.2.2.2.2.1, h.2.2.2.2.2.2.2.2.1, h.2.2.2.2.2.2.2.2.2.1, h.2.2.2.2.2.2.2.2.2.2.1, hv, h.2.2.2.2.2.2.2.2.2.2.2.2.1, h.2.2.2.2.2.2.2.2.2.2.2.2.2.1, h.2.2.2.2.2.2.2.2.2.2.2.2.2.2.1, h.2.2.2.2.2.2.2.2.2.2.2.2.2.2.2.1, h.2.2.2.2.2.2.2.2.2.2.2.2.2.2.2.2⟩
theorem J9s_itemMany {S : bT9} {v : Int32} (h : J9 S) (hv : (0 ≤ (v).toInt ∧ (v).toInt ≤ 700)) : J9 (b9s_itemMany S v) := ⟨K9s_itemMany h.1 hv, h.2⟩
theorem K9s_placeOf {S : bT9} {v : (Nat → Int32)} (h : K9 S) : K9 (b9s_placeOf S v) := ⟨h.1, h.2.1, h.2.2.1, h.2.2.2.1, h.2.2.2.2.1, h.2.2.2.2.2.1, h.2.2.2.2.2.2.1, h.2.2.2.2.2.2.2.1, h.2.2.2.2.2.2.2.2.1, h.2.2.2.2.2.2.2.2.2.1, h.2.2.2.2.2.2.2.2.2.2.1, h.2.2.2.2.2.2.2.2.2.2.2.1, h.2.2.2.2.2.2.2.2.2.2.2.2.1, h.2.2.2.2.2.2.2.2.2.2.2.2.2.1, h.2.2.2.2.2.2.2.2.2.2.2.2.2.2.1, h.2.2.2.2.2.2.2.2.2.2.2.2.2.2.2.1, h.2.2.2.2.2.2.2.2.2.2.2.2.2.2.2.2⟩
theorem J9s_placeOf {S : bT9} {v : (Nat → Int32)} (h : J9 S) : J9 (b9s_placeOf S v) := ⟨K9s_placeOf h.1, h.2⟩
theorem K9s_leafOfPlace {S : bT9} {v : (Nat → Int32)} (h : K9 S) : K9 (b9s_leafOfPlace S v) := ⟨h.1, h.2.1, h.2.2.1, h.2.2.2.1, h.2.2.2.2.1, h.2.2.2.2.2.1, h.2.2.2.2.2.2.1, h.2.2.2.2.2.2.2.1, h.2.2.2.2.2.2.2.2.1, h.2.2.2.2.2.2.2.2.2.1, h.2.2.2.2.2.2.2.2.2.2.1, h.2.2.2.2.2.2.2.2.2.2.2.1, h.2.2.2.2.2.2.2.2.2.2.2.2.1, h.2.2.2.2.2.2.2.2.2.2.2.2.2.1, h.2.2.2.2.2.2.2.2.2.2.2.2.2.2.1, h.2.2.2.2.2.2.2.2.2.2.2.2.2.2.2.1, h.2.2.2.2.2.2.2.2.2.2.2.2.2.2.2.2⟩
theorem J9s_leafOfPlace {S : bT9} {v : (Nat → Int32)} (h : J9 S) : J9 (b9s_leafOfPlace S v) := ⟨K9s_leafOfPlace h.1, h.2⟩
theorem K9s_places {S : bT9} {v : Int32} (h : K9 S) (hv : (0 ≤ (v).toInt ∧ (v).toInt ≤ 64)) : K9 (b9s_places S v) := ⟨h.1, h.2.1, h.2.2.1, h.2.2.2.1, h.2.2.2.2.1, h.2.2.2.2.2.1, h.2.2.2.2.2.2.1, h.2.2.2.2.2.2.2.1, h.2.2.2.2.2.2.2.2.1, h.2.2.2.2.2.2.2.2.2.1, h.2.2.2.2.2.2.2.2.2.2.1, h.2.2.2.2.2.2.2.2.2.2.2.1, hv, h.2.2.2.2.2.2.2.2.2.2.2.2.2.1, h.2.2.2.2.2.2.2.2.2.2.2.2.2.2.1, h.2.2.2.2.2.2.2.2.2.2.2.2.2.2.2.1, h.2.2.2.2.2.2.2.2.2.2.2.2.2.2.2.2⟩
theorem J9s_places {S : bT9} {v : Int32} (h : J9 S) (hv : (0 ≤ (v).toInt ∧ (v).toInt ≤ 64)) : J9 (b9s_places S v) := ⟨K9s_places h.1 hv, h.2⟩
theorem K9s_lowKey {S : bT9} {v : Int64} (h : K9 S) : K9 (b9s_lowKey S v) := ⟨h.1, h.2.1, h.2.2.1, h.2.2.2.1, h.2.2.2.2.1, h.2.2.2.2.2.1, h.2.2.2.2.2.2.1, h.2.2.2.2.2.2.2.1, h.2.2.2.2.2.2.2.2.1, h.2.2.2.2.2.2.2.2.2.1, h.2.2.2.2.2.2.2.2.2.2.1, h.2.2.2.2.2.2.2.2.2.2.2.1, h.2.2.2.2.2.2.2.2.2.2.2.2.1, h.2.2.2.2.2.2.2.2.2.2.2.2.2.1, h.2.2.2.2.2.2.2.2.2.2.2.2.2.2.1, h.2.2.2.2.2.2.2.2.2.2.2.2.2.2.2.1, h.2.2.2.2.2.2.2.2.2.2.2.2.2.2.2.2⟩
theorem J9s_lowKey {S : bT9} {v : Int64} (h : J9 S) : J9 (b9s_lowKey S v) := ⟨K9s_lowKey h.1, h.2⟩
theorem K9s_highKey {S : bT9} {v : Int64} (h : K9 S) : K9 (b9s_highKey S v) := ⟨h.1, h.2.1, h.2.2.1, h.2.2.2.1, h.2.2.2.2.1, h.2.2.2.2.2.1, h.2.2.2.2.2.2.1, h.2.2.2.2.2.2.2.1, h.2.2.2.2.2.2.2.2.1, h.2.2.2.2.2.2.2.2.2.1, h.2.2.2.2.2.2.2.2.2.2.1, h.2.2.2.2.2.2.2.2.2.2.2.1, h.2.2.2.2.2.2.2.2.2.2.2.2.1, h.2.2.2.2.2.2.2.2.2.2.2.2.2.1, h.2.2.2.2.2.2.2.2.2.2.2.2.2.2.1, h.2.2.2.2.2.2.2.2.2.2.2.2.2.2.2.1, h.2.2.2.2.2.2.2.2.2.2.2.2.2.2.2.2⟩
theorem J9s_highKey {S : bT9} {v : Int64} (h : J9 S) : J9 (b9s_highKey S v) := ⟨K9s_highKey h.1, h.2⟩
theorem K9s_lowLength {S : bT9} {v : Int32} (h : K9 S) : K9 (b9s_lowLength S v) := ⟨h.1, h.2.1, h.2.2.1, h.2.2.2.1, h.2.2.2.2.1, h.2.2.2.2.2.1, h.2.2.2.2.2.2.1, h.2.2.2.2.2.2.2.1, h.2.2.2.2.2.2.2.2.1, h.2.2.2.2.2.2.2.2.2.1, h.2.2.2.2.2.2.2.2.2.2.1, h.2.2.2.2.2.2.2.2.2.2.2.1, h.2.2.2.2.2.2.2.2.2.2.2.2.1, h.2.2.2.2.2.2.2.2.2.2.2.2.2.1, h.2.2.2.2.2.2.2.2.2.2.2.2.2.2.1, h.2.2.2.2.2.2.2.2.2.2.2.2.2.2.2.1, h.2.2.2.2.2.2.2.2.2.2.2.2.2.2.2.2⟩
theorem J9s_lowLength {S : bT9} {v : Int32} (h : J9 S) : J9 (b9s_lowLength S v) := ⟨K9s_lowLength h.1, h.2⟩
theorem K9s_highLength {S : bT9} {v : Int32} (h : K9 S) : K9 (b9s_highLength S v) := ⟨h.1, h.2.1, h.2.2.1, h.2.2.2.1, h.2.2.2.2.1, h.2.2.2.2.2.1, h.2.2.2.2.2.2.1, h.2.2.2.2.2.2.2.1, h.2.2.2.2.2.2.2.2.1, h.2.2.2.2.2.2.2.2.2.1, h.2.2.2.2.2.2.2.2.2.2.1, h.2.2.2.2.2.2.2.2.2.2.2.1, h.2.2.2.2.2.2.2.2.2.2.2.2.1, h.2.2.2.2.2.2.2.2.2.2.2.2.2.1, h.2.2.2.2.2.2.2.2.2.2.2.2.2.2.1, h.2.2.2.2.2.2.2.2.2.2.2.2.2.2.2.1, h.2.2.2.2.2.2.2.2.2.2.2.2.2.2.2.2⟩
theorem J9s_highLength {S : bT9} {v : Int32} (h : J9 S) : J9 (b9s_highLength S v) := ⟨K9s_highLength h.1, h.2⟩
theorem K9s_fromKey {S : bT9} {v : Int64} (h : K9 S) : K9 (b9s_fromKey S v) := ⟨h.1, h.2.1, h.2.2.1, h.2.2.2.1, h.2.2.2.2.1, h.2.2.2.2.2.1, h.2.2.2.2.2.2.1, h.2.2.2.2.2.2.2.1, h.2.2.2.2.2.2.2.2.1, h.2.2.2.2.2.2.2.2.2.1, h.2.2.2.2.2.2.2.2.2.2.1, h.2.2.2.2.2.2.2.2.2.2.2.1, h.2.2.2.2.2.2.2.2.2.2.2.2.1, h.2.2.2.2.2.2.2.2.2.2.2.2.2.1, h.2.2.2.2.2.2.2.2.2.2.2.2.2.2.1, h.2.2.2.2.2.2.2.2.2.2.2.2.2.2.2.1, h.2.2.2.2.2.2.2.2.2.2.2.2.2.2.2.2⟩
theorem J9s_fromKey {S : bT9} {v : Int64} (h : J9 S) : J9 (b9s_fromKey S v) := ⟨K9s_fromKey h.1, h.2⟩
theorem K9s_toKey {S : bT9} {v : Int64} (h : K9 S) : K9 (b9s_toKey S v) := ⟨h.1, h.2.1, h.2.2.1, h.2.2.2.1, h.2.2.2.2.1, h.2.2.2.2.2.1, h.2.2.2.2.2.2.1, h.2.2.2.2.2.2.2.1, h.2.2.2.2.2.2.2.2.1, h.2.2.2.2.2.2.2.2.2.1, h.2.2.2.2.2.2.2.2.2.2.1, h.2.2.2.2.2.2.2.2.2.2.2.1, h.2.2.2.2.2.2.2.2.2.2.2.2.1, h.2.2.2.2.2.2.2.2.2.2.2.2.2.1, h.2.2.2.2.2.2.2.2.2.2.2.2.2.2.1, h.2.2.2.2.2.2.2.2.2.2.2.2.2.2.2.1, h.2.2.2.2.2.2.2.2.2.2.2.2.2.2.2.2⟩
theorem J9s_toKey {S : bT9} {v : Int64} (h : J9 S) : J9 (b9s_toKey S v) := ⟨K9s_toKey h.1, h.2⟩
theorem K9s_fromLength {S : bT9} {v : Int32} (h : K9 S) : K9 (b9s_fromLength S v) := ⟨h.1, h.2.1, h.2.2.1, h.2.2.2.1, h.2.2.2.2.1, h.2.2.2.2.2.1, h.2.2.2.2.2.2.1, h.2.2.2.2.2.2.2.1, h.2.2.2.2.2.2.2.2.1, h.2.2.2.2.2.2.2.2.2.1, h.2.2.2.2.2.2.2.2.2.2.1, h.2.2.2.2.2.2.2.2.2.2.2.1, h.2.2.2.2.2.2.2.2.2.2.2.2.1, h.2.2.2.2.2.2.2.2.2.2.2.2.2.1, h.2.2.2.2.2.2.2.2.2.2.2.2.2.2.1, h.2.2.2.2.2.2.2.2.2.2.2.2.2.2.2.1, h.2.2.2.2.2.2.2.2.2.2.2.2.2.2.2.2⟩
theorem J9s_fromLength {S : bT9} {v : Int32} (h : J9 S) : J9 (b9s_fromLength S v) := ⟨K9s_fromLength h.1, h.2⟩
theorem K9s_toLength {S : bT9} {v : Int32} (h : K9 S) : K9 (b9s_toLength S v) := ⟨h.1, h.2.1, h.2.2.1, h.2.2.2.1, h.2.2.2.2.1, h.2.2.2.2.2.1, h.2.2.2.2.2.2.1, h.2.2.2.2.2.2.2.1, h.2.2.2.2.2.2.2.2.1, h.2.2.2.2.2.2.2.2.2.1, h.2.2.2.2.2.2.2.2.2.2.1, h.2.2.2.2.2.2.2.2.2.2.2.1, h.2.2.2.2.2.2.2.2.2.2.2.2.1, h.2.2.2.2.2.2.2.2.2.2.2.2.2.1, h.2.2.2.2.2.2.2.2.2.2.2.2.2.2.1, h.2.2.2.2.2.2.2.2.2.2.2.2.2.2.2.1, h.2.2.2.2.2.2.2.2.2.2.2.2.2.2.2.2⟩
theorem J9s_toLength {S : bT9} {v : Int32} (h : J9 S) : J9 (b9s_toLength S v) := ⟨K9s_toLength h.1, h.2⟩
theorem K9s_ones {S : bT9} {v : (Nat → Int32)} (h : K9 S) : K9 (b9s_ones S v) := ⟨h.1, h.2.1, h.2.2.1, h.2.2.2.1, h.2.2.2.2.1, h.2.2.2.2.2.1, h.2.2.2.2.2.2.1, h.2.2.2.2.2.2.2.1, h.2.2.2.2.2.2.2.2.1, h.2.2.2.2.2.2.2.2.2.1, h.2.2.2.2.2.2.2.2.2.2.1, h.2.2.2.2.2.2.2.2.2.2.2.1, h.2.2.2.2.2.2.2.2.2.2.2.2.1, h.2.2.2.2.2.2.2.2.2.2.2.2.2.1, h.2.2.2.2.2.2.2.2.2.2.2.2.2.2.1, h.2.2.2.2.2.2.2.2.2.2.2.2.2.2.2.1, h.2.2.2.2.2.2.2.2.2.2.2.2.2.2.2.2⟩
theorem J9s_ones {S : bT9} {v : (Nat → Int32)} (h : J9 S) : J9 (b9s_ones S v) := ⟨K9s_ones h.1, h.2⟩
theorem K9s_oneMany {S : bT9} {v : Int32} (h : K9 S) (hv : (0 ≤ (v).toInt ∧ (v).toInt ≤ 700)) : K9 (b9s_oneMany S v) := ⟨h.1, h.2.1, h.2.2.1, h.2.2.2.1, h.2.2.2.2.1, h.2.2.2.2.2.1, h.2.2.2.2.2.2.1, h.2.2.2.2.2.2.2.1, h.2.2.2.2.2.2.2.2.1, h.2.2.2.2.2.2.2.2.2.1, h.2.2.2.2.2.2.2.2.2.2.1, h.2.2.2.2.2.2.2.2.2.2.2.1, h.2.2.2.2.2.2.2.2.2.2.2.2.1, hv, h.2.2.2.2.2.2.2.2.2.2.2.2.2.2.1, h.2.2.2.2.2.2.2.2.2.2.2.2.2.2.2.1, h.2.2.2.2.2.2.2.2.2.2.2.2.2.2.2.2⟩
theorem J9s_oneMany {S : bT9} {v : Int32} (h : J9 S) (hv : (0 ≤ (v).toInt ∧ (v).toInt ≤ 700)) : J9 (b9s_oneMany S v) := ⟨K9s_oneMany h.1 hv, h.2⟩
theorem K9s_rowLong {S : bT9} {v : Int32} (h : K9 S) : K9 (b9s_rowLong S v) := ⟨h.1, h.2.1, h.2.2.1, h.2.2.2.1, h.2.2.2.2.1, h.2.2.2.2.2.1, h.2.2.2.2.2.2.1, h.2.2.2.2.2.2.2.1, h.2.2.2.2.2.2.2.2.1, h.2.2.2.2.2.2.2.2.2.1, h.2.2.2.2.2.2.2.2.2.2.1, h.2.2.2.2.2.2.2.2.2.2.2.1, h.2.2.2.2.2.2.2.2.2.2.2.2.1, h.2.2.2.2.2.2.2.2.2.2.2.2.2.1, h.2.2.2.2.2.2.2.2.2.2.2.2.2.2.1, h.2.2.2.2.2.2.2.2.2.2.2.2.2.2.2.1, h.2.2.2.2.2.2.2.2.2.2.2.2.2.2.2.2⟩
theorem J9s_rowLong {S : bT9} {v : Int32} (h : J9 S) : J9 (b9s_rowLong S v) := ⟨K9s_rowLong h.1, h.2⟩
theorem K9s_laidFor {S : bT9} {v : Int32} (h : K9 S) : K9 (b9s_laidFor S v) := ⟨h.1, h.2.1, h.2.2.1, h.2.2.2.1, h.2.2.2.2.1, h.2.2.2.2.2.1, h.2.2.2.2.2.2.1, h.2.2.2.2.2.2.2.1, h.2.2.2.2.2.2.2.2.1, h.2.2.2.2.2.2.2.2.2.1, h.2.2.2.2.2.2.2.2.2.2.1, h.2.2.2.2.2.2.2.2.2.2.2.1, h.2.2.2.2.2.2.2.2.2.2.2.2.1, h.2.2.2.2.2.2.2.2.2.2.2.2.2.1, h.2.2.2.2.2.2.2.2.2.2.2.2.2.2.1, h.2.2.2.2.2.2.2.2.2.2.2.2.2.2.2.1, h.2.2.2.2.2.2.2.2.2.2.2.2.2.2.2.2⟩
theorem J9s_laidFor {S : bT9} {v : Int32} (h : J9 S) : J9 (b9s_laidFor S v) := ⟨K9s_laidFor h.1, h.2⟩
theorem K9s_signs {S : bT9} {v : (Nat → Int32)} (h : K9 S) : K9 (b9s_signs S v) := ⟨h.1, h.2.1, h.2.2.1, h.2.2.2.1, h.2.2.2.2.1, h.2.2.2.2.2.1, h.2.2.2.2.2.2.1, h.2.2.2.2.2.2.2.1, h.2.2.2.2.2.2.2.2.1, h.2.2.2.2.2.2.2.2.2.1, h.2.2.2.2.2.2.2.2.2.2.1, h.2.2.2.2.2.2.2.2.2.2.2.1, h.2.2.2.2.2.2.2.2.2.2.2.2.1, h.2.2.2.2.2.2.2.2.2.2.2.2.2.1, h.2.2.2.2.2.2.2.2.2.2.2.2.2.2.1, h.2.2.2.2.2.2.2.2.2.2.2.2.2.2.2.1, h.2.2.2.2.2.2.2.2.2.2.2.2.2.2.2.2⟩
theorem J9s_signs {S : bT9} {v : (Nat → Int32)} (h : J9 S) : J9 (b9s_signs S v) := ⟨K9s_signs h.1, h.2⟩
theorem K9s_signMany {S : bT9} {v : Int32} (h : K9 S) (hv : (0 ≤ (v).toInt ∧ (v).toInt ≤ 200)) : K9 (b9s_signMany S v) := ⟨h.1, h.2.1, h.2.2.1, h.2.2.2.1, h.2.2.2.2.1, h.2.2.2.2.2.1, h.2.2.2.2.2.2.1, h.2.2.2.2.2.2.2.1, h.2.2.2.2.2.2.2.2.1, h.2.2.2.2.2.2.2.2.2.1, h.2.2.2.2.2.2.2.2.2.2.1, h.2.2.2.2.2.2.2.2.2.2.2.1, h.2.2.2.2.2.2.2.2.2.2.2.2.1, h.2.2.2.2.2.2.2.2.2.2.2.2.2.1, hv, h.2.2.2.2.2.2.2.2.2.2.2.2.2.2.2.1, h.2.2.2.2.2.2.2.2.2.2.2.2.2.2.2.2⟩
theorem J9s_signMany {S : bT9} {v : Int32} (h : J9 S) (hv : (0 ≤ (v).toInt ∧ (v).toInt ≤ 200)) : J9 (b9s_signMany S v) := ⟨K9s_signMany h.1 hv, h.2⟩
theorem K9s_hasImage {S : bT9} {v : Int32} (h : K9 S) : K9 (b9s_hasImage S v) := ⟨h.1, h.2.1, h.2.2.1, h.2.2.2.1, h.2.2.2.2.1, h.2.2.2.2.2.1, h.2.2.2.2.2.2.1, h.2.2.2.2.2.2.2.1, h.2.2.2.2.2.2.2.2.1, h.2.2.2.2.2.2.2.2.2.1, h.2.2.2.2.2.2.2.2.2.2.1, h.2.2.2.2.2.2.2.2.2.2.2.1, h.2.2.2.2.2.2.2.2.2.2.2.2.1, h.2.2.2.2.2.2.2.2.2.2.2.2.2.1, h.2.2.2.2.2.2.2.2.2.2.2.2.2.2.1, h.2.2.2.2.2.2.2.2.2.2.2.2.2.2.2.1, h.2.2.2.2.2.2.2.2.2.2.2.2.2.2.2.2⟩
theorem J9s_hasImage {S : bT9} {v : Int32} (h : J9 S) : J9 (b9s_hasImage S v) := ⟨K9s_hasImage h.1, h.2⟩
theorem K9s_images {S : bT9} {v : (Nat → Int32)} (h : K9 S) (hv : NW v) : K9 (b9s_images S v) := ⟨h.1, h.2.1, h.2.2.1, h.2.2.2.1, h.2.2.2.2.1, h.2.2.2.2.2.1, h.2.2.2.2.2.2.1, h.2.2.2.2.2.2.2.1, h.2.2.2.2.2.2.2.2.1, h.2.2.2.2.2.2.2.2.2.1, h.2.2.2.2.2.2.2.2.2.2.1, h.2.2.2.2.2.2.2.2.2.2.2.1, h.2.2.2.2.2.2.2.2.2.2.2.2.1, h.2.2.2.2.2.2.2.2.2.2.2.2.2.1, h.2.2.2.2.2.2.2.2.2.2.2.2.2.2.1, hv, h.2.2.2.2.2.2.2.2.2.2.2.2.2.2.2.2⟩
theorem J9s_images {S : bT9} {v : (Nat → Int32)} (h : J9 S) (hv : NW v) : J9 (b9s_images S v) := ⟨K9s_images h.1 hv, h.2⟩
theorem K9s_keyImages {S : bT9} {v : (Nat → Int64)} (h : K9 S) : K9 (b9s_keyImages S v) := ⟨h.1, h.2.1, h.2.2.1, h.2.2.2.1, h.2.2.2.2.1, h.2.2.2.2.2.1, h.2.2.2.2.2.2.1, h.2.2.2.2.2.2.2.1, h.2.2.2.2.2.2.2.2.1, h.2.2.2.2.2.2.2.2.2.1, h.2.2.2.2.2.2.2.2.2.2.1, h.2.2.2.2.2.2.2.2.2.2.2.1, h.2.2.2.2.2.2.2.2.2.2.2.2.1, h.2.2.2.2.2.2.2.2.2.2.2.2.2.1, h.2.2.2.2.2.2.2.2.2.2.2.2.2.2.1, h.2.2.2.2.2.2.2.2.2.2.2.2.2.2.2.1, h.2.2.2.2.2.2.2.2.2.2.2.2.2.2.2.2⟩
theorem J9s_keyImages {S : bT9} {v : (Nat → Int64)} (h : J9 S) : J9 (b9s_keyImages S v) := ⟨K9s_keyImages h.1, h.2⟩
theorem K9s_lengthImages {S : bT9} {v : (Nat → Int32)} (h : K9 S) (hv : (∀ j : Nat, 0 ≤ (v j).toInt ∧ (v j).toInt ≤ 8)) : K9 (b9s_lengthImages S v) := ⟨h.1, h.2.1, h.2.2.1, h.2.2.2.1, h.2.2.2.2.1, h.2.2.2.2.2.1, h.2.2.2.2.2.2.1, h.2.2.2.2.2.2.2.1, h.2.2.2.2.2.2.2.2.1, h.2.2.2.2.2.2.2.2.2.1, h.2.2.2.2.2.2.2.2.2.2.1, h.2.2.2.2.2.2.2.2.2.2.2.1, h.2.2.2.2.2.2.2.2.2.2.2.2.1, h.2.2.2.2.2.2.2.2.2.2.2.2.2.1, h.2.2.2.2.2.2.2.2.2.2.2.2.2.2.1, h.2.2.2.2.2.2.2.2.2.2.2.2.2.2.2.1, hv⟩
theorem J9s_lengthImages {S : bT9} {v : (Nat → Int32)} (h : J9 S) (hv : (∀ j : Nat, 0 ≤ (v j).toInt ∧ (v j).toInt ≤ 8)) : J9 (b9s_lengthImages S v) := ⟨K9s_lengthImages h.1 hv, h.2⟩
theorem pt_updr {f : Nat → Int32} {lo hi : Int} (h : ∀ j : Nat, lo ≤ (f j).toInt ∧ (f j).toInt ≤ hi) {i : Nat} {x : Int32} (hx : lo ≤ x.toInt ∧ x.toInt ≤ hi) : ∀ j : Nat, lo ≤ (upd f i x j).toInt ∧ (upd f i x j).toInt ≤ hi := by
  intro j
  unfold upd
  split
  · exact hx
  · exact h j
theorem pt_upds {f : Nat → Int32} {i : Nat} {x : Int32} : (upd f i x i).toInt = x.toInt := by
  unfold upd
  rw [if_pos rfl]
theorem pt_updq {f : Nat → Int32} {i j : Nat} {x : Int32} (h : j = i) : (upd f i x j).toInt = x.toInt := by
  unfold upd
  rw [if_pos h]
theorem pt_updn {f : Nat → Int32} {i j : Nat} {x : Int32} (h : j ≠ i) : (upd f i x j).toInt = (f j).toInt := by
  unfold upd
  rw [if_neg h]
theorem pt_cl {i : Int32} {j : Nat} (h : j = i.toNatClampNeg) (hj : 0 < j) : i.toInt = (j : Int) := by
  have h0 : 0 ≤ i.toInt := by
    apply Classical.byContradiction
    intro hn
    have : i.toInt.toNat = 0 := Int.toNat_of_nonpos (by omega)
    have h2 : i.toNatClampNeg = i.toInt.toNat := rfl
    omega
  have := pt_clamp h0
  omega
theorem NW_set {f : Nat → Int32} (h : NW f) {a x : Int32} (c1 : a.toInt = 1 → -4 ≤ x.toInt ∧ x.toInt ≤ 4) (c4 : a.toInt = 4 → -3 ≤ x.toInt ∧ x.toInt ≤ 252) (c8 : a.toInt = 8 → 0 ≤ x.toInt ∧ x.toInt ≤ 64) (c9 : a.toInt = 9 → 0 ≤ x.toInt ∧ x.toInt ≤ 64) (c10 : a.toInt = 10 → 0 ≤ x.toInt ∧ x.toInt ≤ 16) (c12 : a.toInt = 12 → 0 ≤ x.toInt ∧ x.toInt ≤ 8) : NW (upd f a.toNatClampNeg x) := by
  unfold NW at h ⊢
  unfold upd
  refine ⟨?_, ?_, ?_, ?_, ?_, ?_⟩
  · split
    · rename_i e
      exact c1 (pt_cl e (by decide))
    · exact h.1
  · split
    · rename_i e
      exact c4 (pt_cl e (by decide))
    · exact h.2.1
  · split
    · rename_i e
      exact c8 (pt_cl e (by decide))
    · exact h.2.2.1
  · split
    · rename_i e
      exact c9 (pt_cl e (by decide))
    · exact h.2.2.2.1
  · split
    · rename_i e
      exact c10 (pt_cl e (by decide))
    · exact h.2.2.2.2.1
  · split
    · rename_i e
      exact c12 (pt_cl e (by decide))
    · exact h.2.2.2.2.2
theorem NW_at {f : Nat → Int32} (h : NW f) (a : Int32) : (a.toInt = 1 → -4 ≤ (f a.toNatClampNeg).toInt ∧ (f a.toNatClampNeg).toInt ≤ 4) ∧ (a.toInt = 4 → -3 ≤ (f a.toNatClampNeg).toInt ∧ (f a.toNatClampNeg).toInt ≤ 252) ∧ (a.toInt = 8 → 0 ≤ (f a.toNatClampNeg).toInt ∧ (f a.toNatClampNeg).toInt ≤ 64) ∧ (a.toInt = 9 → 0 ≤ (f a.toNatClampNeg).toInt ∧ (f a.toNatClampNeg).toInt ≤ 64) ∧ (a.toInt = 10 → 0 ≤ (f a.toNatClampNeg).toInt ∧ (f a.toNatClampNeg).toInt ≤ 16) ∧ (a.toInt = 12 → 0 ≤ (f a.toNatClampNeg).toInt ∧ (f a.toNatClampNeg).toInt ≤ 8) := by
  refine ⟨?_, ?_, ?_, ?_, ?_, ?_⟩
  · intro e
    have e2 : a.toNatClampNeg = 1 := by have := pt_clamp (i := a) (by omega); omega
    rw [e2]
    exact h.1
  · intro e
    have e2 : a.toNatClampNeg = 4 := by have := pt_clamp (i := a) (by omega); omega
    rw [e2]
    exact h.2.1
  · intro e
    have e2 : a.toNatClampNeg = 8 := by have := pt_clamp (i := a) (by omega); omega
    rw [e2]
    exact h.2.2.1
  · intro e
    have e2 : a.toNatClampNeg = 9 := by have := pt_clamp (i := a) (by omega); omega
    rw [e2]
    exact h.2.2.2.1
  · intro e
    have e2 : a.toNatClampNeg = 10 := by have := pt_clamp (i := a) (by omega); omega
    rw [e2]
    exact h.2.2.2.2.1
  · intro e
    have e2 : a.toNatClampNeg = 12 := by have := pt_clamp (i := a) (by omega); omega
    rw [e2]
    exact h.2.2.2.2.2
theorem nm_at {f : Nat → Int32} (h : f = nmF56) (a : Int32) : a.toInt = 56 → (f a.toNatClampNeg).toInt = 32 := by
  intro e
  have e2 : a.toNatClampNeg = 56 := by have := pt_clamp (i := a) (by omega); omega
  rw [e2, h]
  rfl
theorem ND_at {lv lf ls : Nat → Int32} {m : Int32} (h : ND lv lf ls m) {x : Int32} (h0 : 0 ≤ x.toInt) (h1 : x.toInt < m.toInt) : 0 ≤ (lv x.toNatClampNeg).toInt ∧ (lv x.toNatClampNeg).toInt ≤ 7 ∧ 0 ≤ (lf x.toNatClampNeg).toInt ∧ (lf x.toNatClampNeg).toInt ≤ 63 ∧ 1 ≤ (ls x.toNatClampNeg).toInt ∧ (lf x.toNatClampNeg).toInt + (ls x.toNatClampNeg).toInt ≤ 64 := by
  have e := pt_clamp h0
  exact (h x.toNatClampNeg (by omega)).1
theorem pt_updm {f : Nat → Int32} {a x : Int32} {j : Nat} (h : a.toInt ≠ (j : Int)) (hj : 0 < j) : (upd f a.toNatClampNeg x j).toInt = (f j).toInt := pt_updn (fun e => h (pt_cl e hj))
theorem pt_div {x y : Int32} (h0 : 0 ≤ x.toInt) (h1 : 0 < y.toInt) : (x / y).toInt = x.toInt / y.toInt := by
  rw [Int32.toInt_div, Int.tdiv_eq_ediv_of_nonneg h0]
  have h2 := Int.ediv_le_self y.toInt h0
  have h3 := Int.ediv_nonneg h0 (Int.le_of_lt h1)
  have := (pt_rg x).2
  exact Int.bmod_eq_of_le (by omega) (by omega)
def atf (N : Nat) (f : Nat → Int32) (i : Int32) : Int32 := if i < 0 then -1 else if Int32.ofNat N ≤ i then -1 else f i.toNatClampNeg
theorem atf_rng {N : Nat} {f : Nat → Int32} {lo hi : Int} (h : ∀ j : Nat, lo ≤ (f j).toInt ∧ (f j).toInt ≤ hi) (i : Int32) (h0 : lo ≤ -1) (h1 : -1 ≤ hi) : lo ≤ (atf N f i).toInt ∧ (atf N f i).toInt ≤ hi := by
  unfold atf
  split
  · exact ⟨h0, h1⟩
  · split
    · exact ⟨h0, h1⟩
    · exact h _
theorem pt_ite (c : Prop) [Decidable c] (a b : Int32) : (if c then a else b).toInt = if c then a.toInt else b.toInt := by
  split <;> rfl
theorem pn : (∀ a b : Int32, (a < b) = (a.toInt < b.toInt)) ∧ (∀ a b : Int32, (a ≤ b) = (a.toInt ≤ b.toInt)) ∧ (∀ a b : Int32, (a = b) = (a.toInt = b.toInt)) ∧ ((0 : Int32).toInt = 0) ∧ ((1 : Int32).toInt = 1) ∧ ((2 : Int32).toInt = 2) ∧ ((3 : Int32).toInt = 3) ∧ ((4 : Int32).toInt = 4) ∧ ((5 : Int32).toInt = 5) ∧ ((6 : Int32).toInt = 6) ∧ ((7 : Int32).toInt = 7) ∧ ((8 : Int32).toInt = 8) ∧ ((9 : Int32).toInt = 9) ∧ ((10 : Int32).toInt = 10) ∧ ((11 : Int32).toInt = 11) ∧ ((12 : Int32).toInt = 12) ∧ ((13 : Int32).toInt = 13) ∧ ((14 : Int32).toInt = 14) ∧ ((15 : Int32).toInt = 15) ∧ ((16 : Int32).toInt = 16) ∧ ((17 : Int32).toInt = 17) ∧ ((18 : Int32).toInt = 18) ∧ ((19 : Int32).toInt = 19) ∧ ((20 : Int32).toInt = 20) ∧ ((21 : Int32).toInt = 21) ∧ ((22 : Int32).toInt = 22) ∧ ((23 : Int32).toInt = 23) ∧ ((24 : Int32).toInt = 24) ∧ ((25 : Int32).toInt = 25) ∧ ((26 : Int32).toInt = 26) ∧ ((27 : Int32).toInt = 27) ∧ ((28 : Int32).toInt = 28) ∧ ((29 : Int32).toInt = 29) ∧ ((30 : Int32).toInt = 30) ∧ ((31 : Int32).toInt = 31) ∧ ((32 : Int32).toInt = 32) ∧ ((33 : Int32).toInt = 33) ∧ ((34 : Int32).toInt = 34) ∧ ((35 : Int32).toInt = 35) ∧ ((36 : Int32).toInt = 36) ∧ ((37 : Int32).toInt = 37) ∧ ((38 : Int32).toInt = 38) ∧ ((39 : Int32).toInt = 39) ∧ ((40 : Int32).toInt = 40) ∧ ((41 : Int32).toInt = 41) ∧ ((42 : Int32).toInt = 42) ∧ ((43 : Int32).toInt = 43) ∧ ((44 : Int32).toInt = 44) ∧ ((45 : Int32).toInt = 45) ∧ ((46 : Int32).toInt = 46) ∧ ((47 : Int32).toInt = 47) ∧ ((48 : Int32).toInt = 48) ∧ ((49 : Int32).toInt = 49) ∧ ((50 : Int32).toInt = 50) ∧ ((51 : Int32).toInt = 51) ∧ ((52 : Int32).toInt = 52) ∧ ((53 : Int32).toInt = 53) ∧ ((54 : Int32).toInt = 54) ∧ ((55 : Int32).toInt = 55) ∧ ((56 : Int32).toInt = 56) ∧ ((57 : Int32).toInt = 57) ∧ ((58 : Int32).toInt = 58) ∧ ((59 : Int32).toInt = 59) ∧ ((60 : Int32).toInt = 60) ∧ ((61 : Int32).toInt = 61) ∧ ((62 : Int32).toInt = 62) ∧ ((63 : Int32).toInt = 63) ∧ ((64 : Int32).toInt = 64) ∧ ((99 : Int32).toInt = 99) ∧ ((100 : Int32).toInt = 100) ∧ ((101 : Int32).toInt = 101) ∧ ((127 : Int32).toInt = 127) ∧ ((128 : Int32).toInt = 128) ∧ ((140 : Int32).toInt = 140) ∧ ((143 : Int32).toInt = 143) ∧ ((144 : Int32).toInt = 144) ∧ ((159 : Int32).toInt = 159) ∧ ((160 : Int32).toInt = 160) ∧ ((199 : Int32).toInt = 199) ∧ ((200 : Int32).toInt = 200) ∧ ((232 : Int32).toInt = 232) ∧ ((233 : Int32).toInt = 233) ∧ ((255 : Int32).toInt = 255) ∧ ((256 : Int32).toInt = 256) ∧ ((296 : Int32).toInt = 296) ∧ ((297 : Int32).toInt = 297) ∧ ((512 : Int32).toInt = 512) ∧ ((513 : Int32).toInt = 513) ∧ ((700 : Int32).toInt = 700) ∧ ((1000 : Int32).toInt = 1000) ∧ ((1000000000 : Int32).toInt = 1000000000) ∧ ((-16 : Int32).toInt = -16) ∧ ((-15 : Int32).toInt = -15) ∧ ((-14 : Int32).toInt = -14) ∧ ((-13 : Int32).toInt = -13) ∧ ((-12 : Int32).toInt = -12) ∧ ((-11 : Int32).toInt = -11) ∧ ((-10 : Int32).toInt = -10) ∧ ((-9 : Int32).toInt = -9) ∧ ((-8 : Int32).toInt = -8) ∧ ((-7 : Int32).toInt = -7) ∧ ((-6 : Int32).toInt = -6) ∧ ((-5 : Int32).toInt = -5) ∧ ((-4 : Int32).toInt = -4) ∧ ((-3 : Int32).toInt = -3) ∧ ((-2 : Int32).toInt = -2) ∧ ((-1 : Int32).toInt = -1) ∧ ((0 : Int32).toNatClampNeg = 0) ∧ ((1 : Int32).toNatClampNeg = 1) ∧ ((2 : Int32).toNatClampNeg = 2) ∧ ((3 : Int32).toNatClampNeg = 3) ∧ ((4 : Int32).toNatClampNeg = 4) ∧ ((5 : Int32).toNatClampNeg = 5) ∧ ((6 : Int32).toNatClampNeg = 6) ∧ ((7 : Int32).toNatClampNeg = 7) ∧ ((8 : Int32).toNatClampNeg = 8) ∧ ((9 : Int32).toNatClampNeg = 9) ∧ ((10 : Int32).toNatClampNeg = 10) ∧ ((11 : Int32).toNatClampNeg = 11) ∧ ((12 : Int32).toNatClampNeg = 12) ∧ ((13 : Int32).toNatClampNeg = 13) ∧ ((14 : Int32).toNatClampNeg = 14) ∧ ((15 : Int32).toNatClampNeg = 15) ∧ ((16 : Int32).toNatClampNeg = 16) ∧ ((17 : Int32).toNatClampNeg = 17) ∧ ((18 : Int32).toNatClampNeg = 18) ∧ ((19 : Int32).toNatClampNeg = 19) ∧ ((20 : Int32).toNatClampNeg = 20) ∧ ((21 : Int32).toNatClampNeg = 21) ∧ ((22 : Int32).toNatClampNeg = 22) ∧ ((23 : Int32).toNatClampNeg = 23) ∧ ((24 : Int32).toNatClampNeg = 24) ∧ ((25 : Int32).toNatClampNeg = 25) ∧ ((26 : Int32).toNatClampNeg = 26) ∧ ((27 : Int32).toNatClampNeg = 27) ∧ ((28 : Int32).toNatClampNeg = 28) ∧ ((29 : Int32).toNatClampNeg = 29) ∧ ((30 : Int32).toNatClampNeg = 30) ∧ ((31 : Int32).toNatClampNeg = 31) ∧ ((32 : Int32).toNatClampNeg = 32) ∧ ((33 : Int32).toNatClampNeg = 33) ∧ ((34 : Int32).toNatClampNeg = 34) ∧ ((35 : Int32).toNatClampNeg = 35) ∧ ((36 : Int32).toNatClampNeg = 36) ∧ ((37 : Int32).toNatClampNeg = 37) ∧ ((38 : Int32).toNatClampNeg = 38) ∧ ((39 : Int32).toNatClampNeg = 39) ∧ ((40 : Int32).toNatClampNeg = 40) ∧ ((41 : Int32).toNatClampNeg = 41) ∧ ((42 : Int32).toNatClampNeg = 42) ∧ ((43 : Int32).toNatClampNeg = 43) ∧ ((44 : Int32).toNatClampNeg = 44) ∧ ((45 : Int32).toNatClampNeg = 45) ∧ ((46 : Int32).toNatClampNeg = 46) ∧ ((47 : Int32).toNatClampNeg = 47) ∧ ((48 : Int32).toNatClampNeg = 48) ∧ ((49 : Int32).toNatClampNeg = 49) ∧ ((50 : Int32).toNatClampNeg = 50) ∧ ((51 : Int32).toNatClampNeg = 51) ∧ ((52 : Int32).toNatClampNeg = 52) ∧ ((53 : Int32).toNatClampNeg = 53) ∧ ((54 : Int32).toNatClampNeg = 54) ∧ ((55 : Int32).toNatClampNeg = 55) ∧ ((56 : Int32).toNatClampNeg = 56) ∧ ((57 : Int32).toNatClampNeg = 57) ∧ ((58 : Int32).toNatClampNeg = 58) ∧ ((59 : Int32).toNatClampNeg = 59) := by
  refine ⟨fun a b => propext Int32.lt_iff_toInt_lt, fun a b => propext Int32.le_iff_toInt_le, fun a b => propext Int32.toInt_inj.symm, rfl, rfl, rfl, rfl, rfl, rfl, rfl, rfl, rfl, rfl, rfl, rfl, rfl, rfl, rfl, rfl, rfl, rfl, rfl, rfl, rfl, rfl, rfl, rfl, rfl, rfl, rfl, rfl, rfl, rfl, rfl, rfl, rfl, rfl, rfl, rfl, rfl, rfl, rfl, rfl, rfl, rfl, rfl, rfl, rfl, rfl, rfl, rfl, rfl, rfl, rfl, rfl, rfl, rfl, rfl, rfl, rfl, rfl, rfl, rfl, rfl, rfl, rfl, rfl, rfl, rfl, rfl, rfl, rfl, rfl, rfl, rfl, rfl, rfl, rfl, rfl, rfl, rfl, rfl, rfl, rfl, rfl, rfl, rfl, rfl, rfl, rfl, rfl, rfl, rfl, rfl, rfl, rfl, rfl, rfl, rfl, rfl, rfl, rfl, rfl, rfl, rfl, rfl, rfl, rfl, rfl, rfl, rfl, rfl, rfl, rfl, rfl, rfl, rfl, rfl, rfl, rfl, rfl, rfl, rfl, rfl, rfl, rfl, rfl, rfl, rfl, rfl, rfl, rfl, rfl, rfl, rfl, rfl, rfl, rfl, rfl, rfl, rfl, rfl, rfl, rfl, rfl, rfl, rfl, rfl, rfl, rfl, rfl, rfl, rfl, rfl, rfl, rfl, rfl, rfl, rfl, rfl, rfl, rfl, rfl, rfl, rfl, rfl, rfl⟩
theorem pq : (∀ x y : Int32, -2147483648 ≤ x.toInt + y.toInt → x.toInt + y.toInt < 2147483648 → (x + y).toInt = x.toInt + y.toInt) ∧ (∀ x y : Int32, -2147483648 ≤ x.toInt - y.toInt → x.toInt - y.toInt < 2147483648 → (x - y).toInt = x.toInt - y.toInt) ∧ (∀ x y : Int32, -2147483648 ≤ x.toInt * y.toInt → x.toInt * y.toInt < 2147483648 → (x * y).toInt = x.toInt * y.toInt) ∧ (∀ x y : Int32, 0 ≤ x.toInt → 0 < y.toInt → (x / y).toInt = x.toInt / y.toInt) ∧ (∀ (c : Prop) [Decidable c] (a b : Int32), (if c then a else b).toInt = if c then a.toInt else b.toInt) ∧ (∀ p : Prop, (True ∨ p) = True) ∧ (∀ p : Prop, (p ∨ True) = True) ∧ (∀ p : Prop, (False ∨ p) = p) ∧ (∀ p : Prop, (p ∨ False) = p) ∧ (∀ p : Prop, (True ∧ p) = p) ∧ (∀ p : Prop, (p ∧ True) = p) ∧ (∀ p : Prop, (False ∧ p) = False) ∧ (∀ p : Prop, (p ∧ False) = False) ∧ (∀ p : Prop, (True → p) = p) ∧ (∀ p : Prop, (False → p) = True) ∧ (∀ p : Prop, (p → True) = True) :=
  ⟨fun _ _ => pt_add, fun _ _ => pt_sub, fun _ _ => pt_mul, fun _ _ => pt_div, pt_ite, true_or, or_true, false_or, or_false, true_and, and_true, false_and, and_false, fun p => propext ⟨fun h => h trivial, fun h _ => h⟩, fun p => propext ⟨fun _ => trivial, fun _ h => h.elim⟩, fun p => propext ⟨fun _ => trivial, fun _ _ => trivial⟩⟩
theorem sf_X0_bytesAt {S : bT0} (hJ : J0 S) {a1 : Int32} {Q : Int64 → Prop} (hq : ∀ r, Q r) : wp_X0_bytesAt S a1 Q := by
  unfold wp_X0_bytesAt
  refine ⟨fun c => hq _, fun c => ⟨fun c2 => hq _, fun c2 => ⟨?_, hq _⟩⟩⟩
  obtain ⟨j0, j1⟩ := hJ
  simp only [Int32.not_lt, Int32.not_le, Int32.le_iff_toInt_le, Int32.lt_iff_toInt_lt, ← Int32.toInt_inj, pl_0, pl_1, pl_2, pl_8, pl_64, pl_m1] at c c2
  exact pt_in (by omega) (by omega)
theorem sf_X0_lengthAt {S : bT0} (hJ : J0 S) {a1 : Int32} {Q : Int32 → Prop} (hq : ∀ r, Q r) : wp_X0_lengthAt S a1 Q := by
  unfold wp_X0_lengthAt
  refine ⟨fun c => hq _, fun c => ⟨fun c2 => hq _, fun c2 => ⟨?_, hq _⟩⟩⟩
  obtain ⟨j0, j1⟩ := hJ
  simp only [Int32.not_lt, Int32.not_le, Int32.le_iff_toInt_le, Int32.lt_iff_toInt_lt, ← Int32.toInt_inj, pl_0, pl_1, pl_2, pl_8, pl_64, pl_m1] at c c2
  exact pt_in (by omega) (by omega)
theorem sf_X8_order {a0 : Int64} {a2 : Int32} {a3 : Int64} {a5 : Int32} {Q : Int32 → Prop} (hq : ∀ r, Q r) : wp_X8_order a0 a2 a3 a5 Q := by
  unfold wp_X8_order
  exact ⟨fun c => ⟨fun c => hq _, fun c => hq _⟩, fun c => hq _⟩
theorem sf_X0_counted {S : bT0} (hJ : J0 S) {a1 : Int64} {a3 a4 : Int32} {Q : Int32 → Prop} (hq : ∀ r : Int32, 0 ≤ r.toInt → r.toInt ≤ (b0g_count S).toInt → Q r) : wp_X0_counted S a1 a3 a4 Q := by
  unfold wp_X0_counted wp_X0_counted_7
  have hJ2 := hJ
  obtain ⟨j0, j1⟩ := hJ2
  refine ⟨fun n x1 x3 x4 x5 x6 => 0 ≤ x5.toInt ∧ x5.toInt ≤ (b0g_count S).toInt ∧ 0 ≤ x6.toInt ∧ x6.toInt ≤ 64 ∧ n = x6.toInt.toNat, ⟨_, by decide, j0, by decide, by decide, rfl⟩, ?_⟩
  intro n x1 x3 x4 x5 x6 ⟨h1, h2, h3, h4, h5⟩
  have hend : ∀ y5 : Int32, 0 ≤ y5.toInt → y5.toInt ≤ (b0g_count S).toInt → 0 < x6.toInt → wp_X0_counted_59 S x1 x3 x4 y5 x6 Q (fun x1 x3 x4 x5 x6 => ∃ n2, n2 < n ∧ (0 ≤ x5.toInt ∧ x5.toInt ≤ (b0g_count S).toInt ∧ 0 ≤ x6.toInt ∧ x6.toInt ≤ 64 ∧ n2 = x6.toInt.toNat)) := by
    intro y5 g1 g2 g3
    unfold wp_X0_counted_59
    have e := pt_half h3
    exact ⟨by decide, _, by rw [h5, e]; omega, g1, g2, by omega, by omega, rfl⟩
  unfold wp_X0_counted_7b
  refine ⟨fun c => hq _ h1 h2, fun c => ⟨fun c2 => ?_, fun c2 => ?_⟩⟩
  · simp only [Int32.not_lt, Int32.not_le, Int32.le_iff_toInt_le, Int32.lt_iff_toInt_lt, ← Int32.toInt_inj, pl_0, pl_1, pl_2, pl_8, pl_64, pl_m1] at c
    exact hend x5 h1 h2 (by omega)
  · simp only [Int32.not_lt, Int32.not_le, Int32.le_iff_toInt_le, Int32.lt_iff_toInt_lt, ← Int32.toInt_inj, pl_0, pl_1, pl_2, pl_8, pl_64, pl_m1] at c
    have e1 : (x5 + x6).toInt = x5.toInt + x6.toInt := pt_add (by omega) (by omega)
    have e2 : (x5 + x6 - 1).toInt = x5.toInt + x6.toInt - 1 := by rw [pt_sub (by rw [e1, pl_1]; omega) (by rw [e1, pl_1]; omega), e1, pl_1]
    simp only [Int32.not_lt, Int32.not_le, Int32.le_iff_toInt_le, Int32.lt_iff_toInt_lt, ← Int32.toInt_inj, pl_0, pl_1, pl_2, pl_8, pl_64, pl_m1, e2] at c2
    refine sf_X0_bytesAt hJ (fun r => sf_X0_lengthAt hJ (fun r2 => sf_X8_order (fun r3 => ⟨fun _ => hend x5 h1 h2 (by omega), fun _ => hend _ (by omega) (by omega) (by omega)⟩)))
theorem sf_X0_ahead {S : bT0} (hJ : J0 S) {a1 : Int64} {a3 : Int32} {Q : Int32 → Prop} (hq : ∀ r : Int32, 0 ≤ r.toInt → r.toInt ≤ (b0g_count S).toInt → Q r) : wp_X0_ahead S a1 a3 Q := sf_X0_counted hJ hq
theorem sf_X0_upTo {S : bT0} (hJ : J0 S) {a1 : Int64} {a3 : Int32} {Q : Int32 → Prop} (hq : ∀ r : Int32, 0 ≤ r.toInt → r.toInt ≤ (b0g_count S).toInt → Q r) : wp_X0_upTo S a1 a3 Q := sf_X0_counted hJ hq
theorem sf_X0_numberOf {S : bT0} (hJ : J0 S) {a1 : Int64} {a3 : Int32} {Q : Int32 → Prop} (hq : ∀ r : Int32, -1 ≤ r.toInt → r.toInt ≤ (b0g_count S).toInt → Q r) : wp_X0_numberOf S a1 a3 Q := by
  have hJ2 := hJ
  obtain ⟨j0, j1⟩ := hJ2
  unfold wp_X0_numberOf
  refine sf_X0_ahead hJ (fun r h1 h2 => sf_X0_bytesAt hJ (fun r3 => ⟨fun _ => hq _ (by decide) (by rw [pl_m1]; omega), fun _ => sf_X0_lengthAt hJ (fun r5 => ⟨fun _ => hq _ (by decide) (by rw [pl_m1]; omega), fun _ => hq _ (by omega) h2⟩)⟩))
theorem sf_X8_at {N : Nat} {S : Nat → Int32} (hN : N < 2 ^ 31) {a1 : Int32} {Q : Int32 → Prop} (hq : ∀ r, r = atf N S a1 → Q r) : wp_X8_at N S a1 Q := by
  unfold wp_X8_at
  unfold atf at hq
  refine ⟨fun c => hq _ (by rw [if_pos c]), fun c => ⟨fun c2 => hq _ (by rw [if_neg c, if_pos c2]), fun c2 => ⟨?_, hq _ (by rw [if_neg c, if_neg c2])⟩⟩⟩
  have e : (Int32.ofNat N).toInt = (N : Int) := nI_toInt hN
  simp only [Int32.not_lt, Int32.not_le, Int32.le_iff_toInt_le, Int32.lt_iff_toInt_lt, pl_0, e] at c c2
  exact pt_in (by omega) (by omega)
