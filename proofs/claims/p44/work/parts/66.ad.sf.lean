theorem sf_X8_spread {S : bT8} (hJ : J8 S) {a1 : Int32} {a2 : Int32} {a3 : Int32} {a4 : Int32} {Q : Int32 → Prop} (hq : ∀ r : Int32, (LVO (b8g_leaves S) → (((1 ≤ a3.toInt ∧ a3.toInt ≤ 7) ∧ 0 ≤ a4.toInt ∧ a4.toInt ≤ 2) → SPO (fun c => MAY (b0g_bytes (b1g_owners (b8g_leaves S))) (b0g_lengths (b1g_owners (b8g_leaves S))) (b0g_count (b1g_owners (b8g_leaves S))).toInt (b1g_realBits (b8g_leaves S)) (b1g_salt (b8g_leaves S)) (b1g_hashBits (b8g_leaves S)) (SPK (KEY a1 a2 a3) a3 c) (a3 + 1) 1) (fun c => VRD (b0g_bytes (b1g_owners (b8g_leaves S))) (b0g_lengths (b1g_owners (b8g_leaves S))) (b0g_count (b1g_owners (b8g_leaves S))).toInt (b1g_realBits (b8g_leaves S)) (b1g_salt (b8g_leaves S)) (b1g_hashBits (b8g_leaves S)) (SPK (KEY a1 a2 a3) a3 c) (a3 + 1) 2) a4.toInt r.toInt) ∧ (¬ ((1 ≤ a3.toInt ∧ a3.toInt ≤ 7) ∧ 0 ≤ a4.toInt ∧ a4.toInt ≤ 2) → r.toInt = -1)) → Q r) : wp_X8_spread S a1 a2 a3 a4 Q := by
  unfold wp_X8_spread
  have bad : ¬ ((1 ≤ a3.toInt ∧ a3.toInt ≤ 7) ∧ 0 ≤ a4.toInt ∧ a4.toInt ≤ 2) → Q (-1) := fun h => hq _ (fun _ => ⟨fun g => absurd g h, fun _ => rfl⟩)
  refine sf_X8_isCounted (fun r5 z5 _ h5 => ⟨fun c => bad ?_, fun c => ⟨fun d => bad ?_, fun d => ⟨fun e => sf_X8_keyOf (fun r7 h7 => ?_), fun e => bad ?_⟩⟩⟩)
  · rw [c, pl_0] at h5; omega
  · simp only [pn] at d; omega
  rotate_left
  · simp only [pn] at e; omega
  simp only [pn] at c d e
  have ok : (1 ≤ a3.toInt ∧ a3.toInt ≤ 7) ∧ 0 ≤ a4.toInt ∧ a4.toInt ≤ 2 := by omega
  have e7 := h7 (by omega) (by omega)
  have a3' : (a3 + 1).toInt = a3.toInt + 1 := by rw [pt_add (by rw [pl_1]; omega) (by rw [pl_1]; omega), pl_1]
  unfold wp_X8_spread_40
  refine ⟨fun n x3 x4 x5 x7 x8 x9 x10 => x3 = a3 ∧ x4 = a4 ∧ x5 = KEY a1 a2 a3 ∧ 0 ≤ x10.toInt ∧ x10.toInt ≤ 256 ∧ 0 ≤ x7.toInt ∧ x7.toInt ≤ x10.toInt ∧ 0 ≤ x8.toInt ∧ x8.toInt ≤ x10.toInt ∧ (LVO (b8g_leaves S) → x7.toInt = CTP (fun c => (MAY (b0g_bytes (b1g_owners (b8g_leaves S))) (b0g_lengths (b1g_owners (b8g_leaves S))) (b0g_count (b1g_owners (b8g_leaves S))).toInt (b1g_realBits (b8g_leaves S)) (b1g_salt (b8g_leaves S)) (b1g_hashBits (b8g_leaves S)) (SPK (KEY a1 a2 a3) a3 c) (a3 + 1) 1)) x10.toInt.toNat ∧ x8.toInt = CTP (fun c => (VRD (b0g_bytes (b1g_owners (b8g_leaves S))) (b0g_lengths (b1g_owners (b8g_leaves S))) (b0g_count (b1g_owners (b8g_leaves S))).toInt (b1g_realBits (b8g_leaves S)) (b1g_salt (b8g_leaves S)) (b1g_hashBits (b8g_leaves S)) (SPK (KEY a1 a2 a3) a3 c) (a3 + 1) 2)) x10.toInt.toNat ∧ (((x9).toInt = -1 ∧ ∀ c : Nat, (c : Int) < (x10).toInt → ¬ (MAY (b0g_bytes (b1g_owners (b8g_leaves S))) (b0g_lengths (b1g_owners (b8g_leaves S))) (b0g_count (b1g_owners (b8g_leaves S))).toInt (b1g_realBits (b8g_leaves S)) (b1g_salt (b8g_leaves S)) (b1g_hashBits (b8g_leaves S)) (SPK (KEY a1 a2 a3) a3 c) (a3 + 1) 1)) ∨ (0 ≤ (x9).toInt ∧ (x9).toInt < (x10).toInt ∧ (∀ c : Nat, (c : Int) = (x9).toInt → (MAY (b0g_bytes (b1g_owners (b8g_leaves S))) (b0g_lengths (b1g_owners (b8g_leaves S))) (b0g_count (b1g_owners (b8g_leaves S))).toInt (b1g_realBits (b8g_leaves S)) (b1g_salt (b8g_leaves S)) (b1g_hashBits (b8g_leaves S)) (SPK (KEY a1 a2 a3) a3 c) (a3 + 1) 1)) ∧ ∀ c : Nat, (c : Int) < (x9).toInt → ¬ (MAY (b0g_bytes (b1g_owners (b8g_leaves S))) (b0g_lengths (b1g_owners (b8g_leaves S))) (b0g_count (b1g_owners (b8g_leaves S))).toInt (b1g_realBits (b8g_leaves S)) (b1g_salt (b8g_leaves S)) (b1g_hashBits (b8g_leaves S)) (SPK (KEY a1 a2 a3) a3 c) (a3 + 1) 1)))) ∧ n = (256 - x10.toInt).toNat, ⟨_, rfl, rfl, e7, by decide, by decide, by decide, by decide, by decide, by decide, fun _ => ⟨rfl, rfl, Or.inl ⟨rfl, fun c hc => by rw [pl_0] at hc; omega⟩⟩, rfl⟩, ?_⟩
  rintro n x3 x4 x5 x7 x8 x9 x10 ⟨e3, e4, e5, h0, h1, p0, p1, q0, q1, hI, hn⟩
  unfold wp_X8_spread_40b
  rw [e3, e4, e5]
  have e256 : ((256 : Int32)).toInt = 256 := rfl
  refine ⟨fun g => ?_, fun g => ?_⟩
  · simp only [pn] at g
    have ex : x10.toInt.toNat = 256 := by omega
    have fin : ∀ r : Int32, (LVO (b8g_leaves S) → SPO (fun c => (MAY (b0g_bytes (b1g_owners (b8g_leaves S))) (b0g_lengths (b1g_owners (b8g_leaves S))) (b0g_count (b1g_owners (b8g_leaves S))).toInt (b1g_realBits (b8g_leaves S)) (b1g_salt (b8g_leaves S)) (b1g_hashBits (b8g_leaves S)) (SPK (KEY a1 a2 a3) a3 c) (a3 + 1) 1)) (fun c => (VRD (b0g_bytes (b1g_owners (b8g_leaves S))) (b0g_lengths (b1g_owners (b8g_leaves S))) (b0g_count (b1g_owners (b8g_leaves S))).toInt (b1g_realBits (b8g_leaves S)) (b1g_salt (b8g_leaves S)) (b1g_hashBits (b8g_leaves S)) (SPK (KEY a1 a2 a3) a3 c) (a3 + 1) 2)) a4.toInt r.toInt) → Q r := fun r hr => hq _ (fun o => ⟨fun _ => hr o, fun h => absurd ok h⟩)
    refine ⟨fun k => ⟨fun l => fin _ (fun o => ?_), fun l => fin _ (fun o => ?_)⟩, fun k => fin _ (fun o => ?_)⟩
    · simp only [pn] at k l
      obtain ⟨i1, i2, i3⟩ := hI o
      exact ⟨fun h => by omega, fun h => by rw [i2, ex], fun h => by omega⟩
    · simp only [pn] at k l
      obtain ⟨i1, i2, i3⟩ := hI o
      exact ⟨fun h => by rw [i1, ex], fun h => by omega, fun h => by omega⟩
    · simp only [pn] at k
      obtain ⟨i1, i2, i3⟩ := hI o
      refine ⟨fun h => by omega, fun h => by omega, fun _ => ?_⟩
      rcases i3 with ⟨u, v⟩ | ⟨u, v, w, y⟩
      · exact Or.inl ⟨u, fun c hc => v c (by omega)⟩
      · exact Or.inr ⟨u, by omega, w, y⟩
  simp only [pn] at g
  have x10' : (x10 + 1).toInt = x10.toInt + 1 := by rw [pt_add (by rw [pl_1]; omega) (by rw [pl_1]; omega), pl_1]
  have x7' : (x7 + 1).toInt = x7.toInt + 1 := by rw [pt_add (by rw [pl_1]; omega) (by rw [pl_1]; omega), pl_1]
  have x8' : (x8 + 1).toInt = x8.toInt + 1 := by rw [pt_add (by rw [pl_1]; omega) (by rw [pl_1]; omega), pl_1]
  refine fx_octetTo (fun r1 g1 => sf_X1_verdictOf (J8g_leaves hJ) (fun r3 v0 v2 h3 => ?_))
  have ek : KEY a1 a2 a3 ||| r1 = SPK (KEY a1 a2 a3) a3 x10.toInt.toNat := by
    unfold SPK
    rw [g1 (by omega) (by omega), nI_back h0]
  rw [ek] at h3
  have hv : LVO (b8g_leaves S) → VRD (b0g_bytes (b1g_owners (b8g_leaves S))) (b0g_lengths (b1g_owners (b8g_leaves S))) (b0g_count (b1g_owners (b8g_leaves S))).toInt (b1g_realBits (b8g_leaves S)) (b1g_salt (b8g_leaves S)) (b1g_hashBits (b8g_leaves S)) (SPK (KEY a1 a2 a3) a3 x10.toInt.toNat) (a3 + 1) r3.toInt := fun o => h3 o (by omega) (by omega)
  have step : ∀ y7 y8 y9 : Int32, 0 ≤ y7.toInt → y7.toInt ≤ (x10 + 1).toInt → 0 ≤ y8.toInt → y8.toInt ≤ (x10 + 1).toInt → (LVO (b8g_leaves S) → y7.toInt = CTP (fun c => (MAY (b0g_bytes (b1g_owners (b8g_leaves S))) (b0g_lengths (b1g_owners (b8g_leaves S))) (b0g_count (b1g_owners (b8g_leaves S))).toInt (b1g_realBits (b8g_leaves S)) (b1g_salt (b8g_leaves S)) (b1g_hashBits (b8g_leaves S)) (SPK (KEY a1 a2 a3) a3 c) (a3 + 1) 1)) (x10.toInt.toNat + 1) ∧ y8.toInt = CTP (fun c => (VRD (b0g_bytes (b1g_owners (b8g_leaves S))) (b0g_lengths (b1g_owners (b8g_leaves S))) (b0g_count (b1g_owners (b8g_leaves S))).toInt (b1g_realBits (b8g_leaves S)) (b1g_salt (b8g_leaves S)) (b1g_hashBits (b8g_leaves S)) (SPK (KEY a1 a2 a3) a3 c) (a3 + 1) 2)) (x10.toInt.toNat + 1) ∧ (((y9).toInt = -1 ∧ ∀ c : Nat, (c : Int) < (x10 + 1).toInt → ¬ (MAY (b0g_bytes (b1g_owners (b8g_leaves S))) (b0g_lengths (b1g_owners (b8g_leaves S))) (b0g_count (b1g_owners (b8g_leaves S))).toInt (b1g_realBits (b8g_leaves S)) (b1g_salt (b8g_leaves S)) (b1g_hashBits (b8g_leaves S)) (SPK (KEY a1 a2 a3) a3 c) (a3 + 1) 1)) ∨ (0 ≤ (y9).toInt ∧ (y9).toInt < (x10 + 1).toInt ∧ (∀ c : Nat, (c : Int) = (y9).toInt → (MAY (b0g_bytes (b1g_owners (b8g_leaves S))) (b0g_lengths (b1g_owners (b8g_leaves S))) (b0g_count (b1g_owners (b8g_leaves S))).toInt (b1g_realBits (b8g_leaves S)) (b1g_salt (b8g_leaves S)) (b1g_hashBits (b8g_leaves S)) (SPK (KEY a1 a2 a3) a3 c) (a3 + 1) 1)) ∧ ∀ c : Nat, (c : Int) < (y9).toInt → ¬ (MAY (b0g_bytes (b1g_owners (b8g_leaves S))) (b0g_lengths (b1g_owners (b8g_leaves S))) (b0g_count (b1g_owners (b8g_leaves S))).toInt (b1g_realBits (b8g_leaves S)) (b1g_salt (b8g_leaves S)) (b1g_hashBits (b8g_leaves S)) (SPK (KEY a1 a2 a3) a3 c) (a3 + 1) 1)))) → wp_X8_spread_101 S a3 a4 (KEY a1 a2 a3) y7 y8 y9 x10 Q (fun x3 x4 x5 x7 x8 x9 x10 => ∃ n2 : Nat, n2 < n ∧ x3 = a3 ∧ x4 = a4 ∧ x5 = KEY a1 a2 a3 ∧ 0 ≤ x10.toInt ∧ x10.toInt ≤ 256 ∧ 0 ≤ x7.toInt ∧ x7.toInt ≤ x10.toInt ∧ 0 ≤ x8.toInt ∧ x8.toInt ≤ x10.toInt ∧ (LVO (b8g_leaves S) → x7.toInt = CTP (fun c => (MAY (b0g_bytes (b1g_owners (b8g_leaves S))) (b0g_lengths (b1g_owners (b8g_leaves S))) (b0g_count (b1g_owners (b8g_leaves S))).toInt (b1g_realBits (b8g_leaves S)) (b1g_salt (b8g_leaves S)) (b1g_hashBits (b8g_leaves S)) (SPK (KEY a1 a2 a3) a3 c) (a3 + 1) 1)) x10.toInt.toNat ∧ x8.toInt = CTP (fun c => (VRD (b0g_bytes (b1g_owners (b8g_leaves S))) (b0g_lengths (b1g_owners (b8g_leaves S))) (b0g_count (b1g_owners (b8g_leaves S))).toInt (b1g_realBits (b8g_leaves S)) (b1g_salt (b8g_leaves S)) (b1g_hashBits (b8g_leaves S)) (SPK (KEY a1 a2 a3) a3 c) (a3 + 1) 2)) x10.toInt.toNat ∧ (((x9).toInt = -1 ∧ ∀ c : Nat, (c : Int) < (x10).toInt → ¬ (MAY (b0g_bytes (b1g_owners (b8g_leaves S))) (b0g_lengths (b1g_owners (b8g_leaves S))) (b0g_count (b1g_owners (b8g_leaves S))).toInt (b1g_realBits (b8g_leaves S)) (b1g_salt (b8g_leaves S)) (b1g_hashBits (b8g_leaves S)) (SPK (KEY a1 a2 a3) a3 c) (a3 + 1) 1)) ∨ (0 ≤ (x9).toInt ∧ (x9).toInt < (x10).toInt ∧ (∀ c : Nat, (c : Int) = (x9).toInt → (MAY (b0g_bytes (b1g_owners (b8g_leaves S))) (b0g_lengths (b1g_owners (b8g_leaves S))) (b0g_count (b1g_owners (b8g_leaves S))).toInt (b1g_realBits (b8g_leaves S)) (b1g_salt (b8g_leaves S)) (b1g_hashBits (b8g_leaves S)) (SPK (KEY a1 a2 a3) a3 c) (a3 + 1) 1)) ∧ ∀ c : Nat, (c : Int) < (x9).toInt → ¬ (MAY (b0g_bytes (b1g_owners (b8g_leaves S))) (b0g_lengths (b1g_owners (b8g_leaves S))) (b0g_count (b1g_owners (b8g_leaves S))).toInt (b1g_realBits (b8g_leaves S)) (b1g_salt (b8g_leaves S)) (b1g_hashBits (b8g_leaves S)) (SPK (KEY a1 a2 a3) a3 c) (a3 + 1) 1)))) ∧ n2 = (256 - x10.toInt).toNat) := by
    intro y7 y8 y9 a b c' d' hh
    unfold wp_X8_spread_101
    refine ⟨_, ?_, rfl, rfl, rfl, by omega, by omega, a, b, c', d', fun o => ?_, rfl⟩
    · omega
    · rw [show (x10 + 1).toInt.toNat = x10.toInt.toNat + 1 by omega]
      exact hh o
  refine ⟨fun z => ?_, fun z => ?_⟩
  · unfold wp_X8_spread_92
    refine ⟨fun _ => step x7 x8 x9 (by omega) (by omega) (by omega) (by omega) (fun o => ?_), fun y => ?_⟩
    · obtain ⟨i1, i2, i3⟩ := hI o
      have v := hv o
      rw [z, pl_0] at v
      have nm : ¬ (MAY (b0g_bytes (b1g_owners (b8g_leaves S))) (b0g_lengths (b1g_owners (b8g_leaves S))) (b0g_count (b1g_owners (b8g_leaves S))).toInt (b1g_realBits (b8g_leaves S)) (b1g_salt (b8g_leaves S)) (b1g_hashBits (b8g_leaves S)) (SPK (KEY a1 a2 a3) a3 x10.toInt.toNat) (a3 + 1) 1) := by
        intro hM
        rcases v with ⟨_, v⟩ | ⟨v, _⟩ | ⟨v, _⟩
        · have := MAY_one o.2.1 o.2.2.1 o.2.2.2.1 o.2.2.2.2 v hM
          omega
        · omega
        · omega
      have nv : ¬ (VRD (b0g_bytes (b1g_owners (b8g_leaves S))) (b0g_lengths (b1g_owners (b8g_leaves S))) (b0g_count (b1g_owners (b8g_leaves S))).toInt (b1g_realBits (b8g_leaves S)) (b1g_salt (b8g_leaves S)) (b1g_hashBits (b8g_leaves S)) (SPK (KEY a1 a2 a3) a3 x10.toInt.toNat) (a3 + 1) 2) := fun hV => by
        have := VRD_one o.2.1 o.2.2.1 o.2.2.2.1 o.2.2.2.2 v hV
        omega
      refine ⟨by rw [CTP_n (P := fun c => (MAY (b0g_bytes (b1g_owners (b8g_leaves S))) (b0g_lengths (b1g_owners (b8g_leaves S))) (b0g_count (b1g_owners (b8g_leaves S))).toInt (b1g_realBits (b8g_leaves S)) (b1g_salt (b8g_leaves S)) (b1g_hashBits (b8g_leaves S)) (SPK (KEY a1 a2 a3) a3 c) (a3 + 1) 1)) nm]; exact i1, by rw [CTP_n (P := fun c => (VRD (b0g_bytes (b1g_owners (b8g_leaves S))) (b0g_lengths (b1g_owners (b8g_leaves S))) (b0g_count (b1g_owners (b8g_leaves S))).toInt (b1g_realBits (b8g_leaves S)) (b1g_salt (b8g_leaves S)) (b1g_hashBits (b8g_leaves S)) (SPK (KEY a1 a2 a3) a3 c) (a3 + 1) 2)) nv]; exact i2, ?_⟩
      rcases i3 with ⟨u, w⟩ | ⟨u, w, w2, w3⟩
      · refine Or.inl ⟨u, fun c hc => ?_⟩
        by_cases e : c = x10.toInt.toNat
        · rw [e]; exact nm
        · exact w c (by omega)
      · exact Or.inr ⟨u, by omega, w2, w3⟩
    · rw [z] at y
      exact absurd y (by decide)
  · have body : ∀ y9 : Int32, (y9 = x9 ∧ ¬ x9 = -1) ∨ (y9 = x10 ∧ x9 = -1) → wp_X8_spread_92 S a3 a4 (KEY a1 a2 a3) (x7 + 1) x8 y9 x10 r3 Q (fun x3 x4 x5 x7 x8 x9 x10 => ∃ n2 : Nat, n2 < n ∧ x3 = a3 ∧ x4 = a4 ∧ x5 = KEY a1 a2 a3 ∧ 0 ≤ x10.toInt ∧ x10.toInt ≤ 256 ∧ 0 ≤ x7.toInt ∧ x7.toInt ≤ x10.toInt ∧ 0 ≤ x8.toInt ∧ x8.toInt ≤ x10.toInt ∧ (LVO (b8g_leaves S) → x7.toInt = CTP (fun c => (MAY (b0g_bytes (b1g_owners (b8g_leaves S))) (b0g_lengths (b1g_owners (b8g_leaves S))) (b0g_count (b1g_owners (b8g_leaves S))).toInt (b1g_realBits (b8g_leaves S)) (b1g_salt (b8g_leaves S)) (b1g_hashBits (b8g_leaves S)) (SPK (KEY a1 a2 a3) a3 c) (a3 + 1) 1)) x10.toInt.toNat ∧ x8.toInt = CTP (fun c => (VRD (b0g_bytes (b1g_owners (b8g_leaves S))) (b0g_lengths (b1g_owners (b8g_leaves S))) (b0g_count (b1g_owners (b8g_leaves S))).toInt (b1g_realBits (b8g_leaves S)) (b1g_salt (b8g_leaves S)) (b1g_hashBits (b8g_leaves S)) (SPK (KEY a1 a2 a3) a3 c) (a3 + 1) 2)) x10.toInt.toNat ∧ (((x9).toInt = -1 ∧ ∀ c : Nat, (c : Int) < (x10).toInt → ¬ (MAY (b0g_bytes (b1g_owners (b8g_leaves S))) (b0g_lengths (b1g_owners (b8g_leaves S))) (b0g_count (b1g_owners (b8g_leaves S))).toInt (b1g_realBits (b8g_leaves S)) (b1g_salt (b8g_leaves S)) (b1g_hashBits (b8g_leaves S)) (SPK (KEY a1 a2 a3) a3 c) (a3 + 1) 1)) ∨ (0 ≤ (x9).toInt ∧ (x9).toInt < (x10).toInt ∧ (∀ c : Nat, (c : Int) = (x9).toInt → (MAY (b0g_bytes (b1g_owners (b8g_leaves S))) (b0g_lengths (b1g_owners (b8g_leaves S))) (b0g_count (b1g_owners (b8g_leaves S))).toInt (b1g_realBits (b8g_leaves S)) (b1g_salt (b8g_leaves S)) (b1g_hashBits (b8g_leaves S)) (SPK (KEY a1 a2 a3) a3 c) (a3 + 1) 1)) ∧ ∀ c : Nat, (c : Int) < (x9).toInt → ¬ (MAY (b0g_bytes (b1g_owners (b8g_leaves S))) (b0g_lengths (b1g_owners (b8g_leaves S))) (b0g_count (b1g_owners (b8g_leaves S))).toInt (b1g_realBits (b8g_leaves S)) (b1g_salt (b8g_leaves S)) (b1g_hashBits (b8g_leaves S)) (SPK (KEY a1 a2 a3) a3 c) (a3 + 1) 1)))) ∧ n2 = (256 - x10.toInt).toNat) := by
      intro y9 hy
      have ym : LVO (b8g_leaves S) → (MAY (b0g_bytes (b1g_owners (b8g_leaves S))) (b0g_lengths (b1g_owners (b8g_leaves S))) (b0g_count (b1g_owners (b8g_leaves S))).toInt (b1g_realBits (b8g_leaves S)) (b1g_salt (b8g_leaves S)) (b1g_hashBits (b8g_leaves S)) (SPK (KEY a1 a2 a3) a3 x10.toInt.toNat) (a3 + 1) 1) := by
        intro o
        rcases hv o with ⟨v, _⟩ | ⟨_, v, _⟩ | ⟨_, v, _⟩
        · exact absurd (Int32.toInt_inj.mp (v.trans pl_0.symm)) z
        · exact v
        · exact v
      have yl : LVO (b8g_leaves S) → (((y9).toInt = -1 ∧ ∀ c : Nat, (c : Int) < (x10 + 1).toInt → ¬ (MAY (b0g_bytes (b1g_owners (b8g_leaves S))) (b0g_lengths (b1g_owners (b8g_leaves S))) (b0g_count (b1g_owners (b8g_leaves S))).toInt (b1g_realBits (b8g_leaves S)) (b1g_salt (b8g_leaves S)) (b1g_hashBits (b8g_leaves S)) (SPK (KEY a1 a2 a3) a3 c) (a3 + 1) 1)) ∨ (0 ≤ (y9).toInt ∧ (y9).toInt < (x10 + 1).toInt ∧ (∀ c : Nat, (c : Int) = (y9).toInt → (MAY (b0g_bytes (b1g_owners (b8g_leaves S))) (b0g_lengths (b1g_owners (b8g_leaves S))) (b0g_count (b1g_owners (b8g_leaves S))).toInt (b1g_realBits (b8g_leaves S)) (b1g_salt (b8g_leaves S)) (b1g_hashBits (b8g_leaves S)) (SPK (KEY a1 a2 a3) a3 c) (a3 + 1) 1)) ∧ ∀ c : Nat, (c : Int) < (y9).toInt → ¬ (MAY (b0g_bytes (b1g_owners (b8g_leaves S))) (b0g_lengths (b1g_owners (b8g_leaves S))) (b0g_count (b1g_owners (b8g_leaves S))).toInt (b1g_realBits (b8g_leaves S)) (b1g_salt (b8g_leaves S)) (b1g_hashBits (b8g_leaves S)) (SPK (KEY a1 a2 a3) a3 c) (a3 + 1) 1))) := by
        intro o
        obtain ⟨i1, i2, i3⟩ := hI o
        rcases hy with ⟨e, f⟩ | ⟨e, f⟩
        · rw [e]
          rcases i3 with ⟨u, w⟩ | ⟨u, w, w2, w3⟩
          · exact absurd (Int32.toInt_inj.mp (u.trans pl_m1.symm)) f
          · exact Or.inr ⟨u, by omega, w2, w3⟩
        · rw [e]
          rcases i3 with ⟨u, w⟩ | ⟨u, w, w2, w3⟩
          · exact Or.inr ⟨h0, by omega, fun c hc => by rw [show c = x10.toInt.toNat by omega]; exact ym o, fun c hc => w c hc⟩
          · rw [f, pl_m1] at u
            omega
      unfold wp_X8_spread_92
      refine ⟨fun y => step (x7 + 1) x8 y9 (by omega) (by omega) (by omega) (by omega) (fun o => ?_), fun y => step (x7 + 1) (x8 + 1) y9 (by omega) (by omega) (by omega) (by omega) (fun o => ?_)⟩
      · obtain ⟨i1, i2, i3⟩ := hI o
        have nv : ¬ (VRD (b0g_bytes (b1g_owners (b8g_leaves S))) (b0g_lengths (b1g_owners (b8g_leaves S))) (b0g_count (b1g_owners (b8g_leaves S))).toInt (b1g_realBits (b8g_leaves S)) (b1g_salt (b8g_leaves S)) (b1g_hashBits (b8g_leaves S)) (SPK (KEY a1 a2 a3) a3 x10.toInt.toNat) (a3 + 1) 2) := fun hV => y (Int32.toInt_inj.mp ((VRD_one o.2.1 o.2.2.1 o.2.2.2.1 o.2.2.2.2 (hv o) hV).trans pl_2.symm))
        exact ⟨by rw [CTP_y (P := fun c => (MAY (b0g_bytes (b1g_owners (b8g_leaves S))) (b0g_lengths (b1g_owners (b8g_leaves S))) (b0g_count (b1g_owners (b8g_leaves S))).toInt (b1g_realBits (b8g_leaves S)) (b1g_salt (b8g_leaves S)) (b1g_hashBits (b8g_leaves S)) (SPK (KEY a1 a2 a3) a3 c) (a3 + 1) 1)) (ym o), x7', i1], by rw [CTP_n (P := fun c => (VRD (b0g_bytes (b1g_owners (b8g_leaves S))) (b0g_lengths (b1g_owners (b8g_leaves S))) (b0g_count (b1g_owners (b8g_leaves S))).toInt (b1g_realBits (b8g_leaves S)) (b1g_salt (b8g_leaves S)) (b1g_hashBits (b8g_leaves S)) (SPK (KEY a1 a2 a3) a3 c) (a3 + 1) 2)) nv]; exact i2, yl o⟩
      · obtain ⟨i1, i2, i3⟩ := hI o
        have v := hv o
        rw [y, pl_2] at v
        exact ⟨by rw [CTP_y (P := fun c => (MAY (b0g_bytes (b1g_owners (b8g_leaves S))) (b0g_lengths (b1g_owners (b8g_leaves S))) (b0g_count (b1g_owners (b8g_leaves S))).toInt (b1g_realBits (b8g_leaves S)) (b1g_salt (b8g_leaves S)) (b1g_hashBits (b8g_leaves S)) (SPK (KEY a1 a2 a3) a3 c) (a3 + 1) 1)) (ym o), x7', i1], by rw [CTP_y (P := fun c => (VRD (b0g_bytes (b1g_owners (b8g_leaves S))) (b0g_lengths (b1g_owners (b8g_leaves S))) (b0g_count (b1g_owners (b8g_leaves S))).toInt (b1g_realBits (b8g_leaves S)) (b1g_salt (b8g_leaves S)) (b1g_hashBits (b8g_leaves S)) (SPK (KEY a1 a2 a3) a3 c) (a3 + 1) 2)) v, x8', i2], yl o⟩
    unfold wp_X8_spread_90
    exact ⟨fun y => body x9 (Or.inl ⟨rfl, y⟩), fun y => body x10 (Or.inr ⟨rfl, y⟩)⟩
def F_X8_question (S u : bT8) : Prop := (b2g_told (b8g_now u)) = (b2g_told (b8g_now S)) ∧ (b2g_built (b8g_now u)) = (b2g_built (b8g_now S)) ∧ (b2g_answers (b8g_now u)) = (b2g_answers (b8g_now S)) ∧ (b2g_draws (b8g_now u)) = (b2g_draws (b8g_now S)) ∧ (b8g_kept u) = (b8g_kept S) ∧ (b8g_isKept u) = (b8g_isKept S) ∧ (b8g_leaves u) = (b8g_leaves S) ∧ (b8g_tree u) = (b8g_tree S) ∧ (b8g_tuning u) = (b8g_tuning S) ∧ (b8g_trial u) = (b8g_trial S) ∧ (b8g_tape u) = (b8g_tape S) ∧ (b8g_text u) = (b8g_text S) ∧ (b8g_chosenRow u) = (b8g_chosenRow S)
set_option maxRecDepth 20000 in
set_option maxHeartbeats 8000000 in
theorem sf_X8_question {S : bT8} (hJ : J8 S) {a1 : Int32} {a2 : Int32} {a3 : Int32} {Q : Int32 → (bT8) → Prop} (hq : ∀ (r : Int32) (u : bT8), (J8 u) → F_X8_question S u → ((r.toInt = -1 ∧ (b0g_count (b2g_questions (b8g_now u))).toInt = (b0g_count (b2g_questions (b8g_now S))).toInt ∧ (a3.toInt < 1 ∨ 8 < a3.toInt ∨ 16 ≤ (b0g_count (b2g_questions (b8g_now S))).toInt)) ∨ (1 ≤ a3.toInt ∧ a3.toInt ≤ 8 ∧ (b0g_count (b2g_questions (b8g_now S))).toInt < 16 ∧ r.toInt = (b0g_count (b2g_questions (b8g_now S))).toInt + 1 ∧ (b0g_count (b2g_questions (b8g_now u))).toInt = (b0g_count (b2g_questions (b8g_now S))).toInt + 1)) → Q r u) : wp_X8_question S a1 a2 a3 Q := by
  unfold wp_X8_question
  have hFS : F_X8_question S S := ⟨rfl, rfl, rfl, rfl, rfl, rfl, rfl, rfl, rfl, rfl, rfl, rfl, rfl⟩
  have jf1 := J0g_count (J2g_questions (J8g_now hJ))
  have rga1 := pt_rg a1
  have rga2 := pt_rg a2
  have rga3 := pt_rg a3
  refine sf_X8_isLength  (fun r1 hzr1 hr1_0 => ?_)
  try simp (disch := first | ((try simp (disch := first | ((try simp only [pn]) <;> omega) | fail) only [pn, pq]) <;> omega) | fail) only [pn, pq] at hr1_0
  refine ⟨fun c3 => ?_, fun c3 => ?_⟩
  · try simp (disch := first | ((try simp (disch := first | ((try simp only [pn]) <;> omega) | fail) only [pn, pq]) <;> omega) | fail) only [pn, pq] at c3
    exact hq _ _ hJ hFS (by (try simp (disch := first | ((try simp (disch := first | ((try simp only [pn]) <;> omega) | fail) only [pn, pq]) <;> omega) | fail) only [pn, pq]) <;> (intros; (try simp (disch := first | ((try simp (disch := first | ((try simp only [pn]) <;> omega) | fail) only [pn, pq]) <;> omega) | fail) only [pn, pq]) <;> omega))
  · try simp (disch := first | ((try simp (disch := first | ((try simp only [pn]) <;> omega) | fail) only [pn, pq]) <;> omega) | fail) only [pn, pq] at c3
    refine ⟨fun c4 => ?_, fun c4 => ?_⟩
    · try simp (disch := first | ((try simp (disch := first | ((try simp only [pn]) <;> omega) | fail) only [pn, pq]) <;> omega) | fail) only [pn, pq] at c4
      refine sf_X8_keyOf  (fun r5 hr5_0 => ?_)
      refine sf_X0_append (J2g_questions (J8g_now hJ)) (fun u8 hJu8 hfu8 hr7_0 => ?_)
      try simp (disch := first | ((try simp (disch := first | ((try simp only [pn]) <;> omega) | fail) only [pn, pq]) <;> omega) | fail) only [pn, pq] at hr7_0
      intro S9 eS9
      have hGS9 : F_X8_question S S9 := by
        rw [eS9]
        exact ⟨hFS.1, hFS.2.1, hFS.2.2.1, hFS.2.2.2.1, hFS.2.2.2.2.1, hFS.2.2.2.2.2.1, hFS.2.2.2.2.2.2.1, hFS.2.2.2.2.2.2.2.1, hFS.2.2.2.2.2.2.2.2.1, hFS.2.2.2.2.2.2.2.2.2.1, hFS.2.2.2.2.2.2.2.2.2.2.1, hFS.2.2.2.2.2.2.2.2.2.2.2.1, hFS.2.2.2.2.2.2.2.2.2.2.2.2⟩
      have hJS9 : J8 S9 := by rw [eS9]; exact (J8s_now hJ (J2s_questions (J8g_now hJ) hJu8))
      have hFS9 : F_X8_question S S9 := hGS9
      have je2 : ((b0g_count (b2g_questions (b8g_now S9)))).toInt = ((b0g_count u8)).toInt := by rw [eS9]
      try simp (disch := first | ((try simp (disch := first | ((try simp only [pn]) <;> omega) | fail) only [pn, pq]) <;> omega) | fail) only [pn, pq] at je2
      have jf3 := J0g_count (J2g_questions (J8g_now hJS9))
      exact hq _ _ hJS9 hFS9 (by (try simp (disch := first | ((try simp (disch := first | ((try simp only [pn]) <;> omega) | fail) only [pn, pq]) <;> omega) | fail) only [pn, pq]) <;> (intros; (try simp (disch := first | ((try simp (disch := first | ((try simp only [pn]) <;> omega) | fail) only [pn, pq]) <;> omega) | fail) only [pn, pq]) <;> omega))
    · try simp (disch := first | ((try simp (disch := first | ((try simp only [pn]) <;> omega) | fail) only [pn, pq]) <;> omega) | fail) only [pn, pq] at c4
      exact hq _ _ hJ hFS (by (try simp (disch := first | ((try simp (disch := first | ((try simp only [pn]) <;> omega) | fail) only [pn, pq]) <;> omega) | fail) only [pn, pq]) <;> (intros; (try simp (disch := first | ((try simp (disch := first | ((try simp only [pn]) <;> omega) | fail) only [pn, pq]) <;> omega) | fail) only [pn, pq]) <;> omega))
def F_X8_forget (S u : bT8) : Prop := (b2g_told (b8g_now u)) = (b2g_told (b8g_now S)) ∧ (b2g_built (b8g_now u)) = (b2g_built (b8g_now S)) ∧ (b0g_bytes (b2g_questions (b8g_now u))) = (b0g_bytes (b2g_questions (b8g_now S))) ∧ (b0g_lengths (b2g_questions (b8g_now u))) = (b0g_lengths (b2g_questions (b8g_now S))) ∧ (b2g_answers (b8g_now u)) = (b2g_answers (b8g_now S)) ∧ (b2g_draws (b8g_now u)) = (b2g_draws (b8g_now S)) ∧ (b8g_kept u) = (b8g_kept S) ∧ (b8g_isKept u) = (b8g_isKept S) ∧ (b8g_leaves u) = (b8g_leaves S) ∧ (b8g_tree u) = (b8g_tree S) ∧ (b8g_tuning u) = (b8g_tuning S) ∧ (b8g_trial u) = (b8g_trial S) ∧ (b8g_tape u) = (b8g_tape S) ∧ (b8g_text u) = (b8g_text S) ∧ (b8g_chosenRow u) = (b8g_chosenRow S)
set_option maxRecDepth 20000 in
set_option maxHeartbeats 8000000 in
theorem sf_X8_forget {S : bT8} (hJ : J8 S) {Q : Int32 → (bT8) → Prop} (hq : ∀ (r : Int32) (u : bT8), (J8 u) → F_X8_forget S u → (r.toInt = (b0g_count (b2g_questions (b8g_now S))).toInt) → ((b0g_count (b2g_questions (b8g_now u))).toInt = 0) → Q r u) : wp_X8_forget S Q := by
  unfold wp_X8_forget
  have hFS : F_X8_forget S S := ⟨rfl, rfl, rfl, rfl, rfl, rfl, rfl, rfl, rfl, rfl, rfl, rfl, rfl, rfl, rfl⟩
  have jf1 := J0g_count (J2g_questions (J8g_now hJ))
  intro S1 eS1
  have hJS1 : J8 S1 := by rw [eS1]; exact (J8s_now hJ (J2s_questions (J8g_now hJ) (J0s_count (J2g_questions (J8g_now hJ)) ⟨(by (try simp (disch := first | ((try simp (disch := first | ((try simp only [pn]) <;> omega) | fail) only [pn, pq]) <;> omega) | fail) only [pn, pq]) <;> (intros; (try simp (disch := first | ((try simp (disch := first | ((try simp only [pn]) <;> omega) | fail) only [pn, pq]) <;> omega) | fail) only [pn, pq]) <;> omega)), (by (try simp (disch := first | ((try simp (disch := first | ((try simp only [pn]) <;> omega) | fail) only [pn, pq]) <;> omega) | fail) only [pn, pq]) <;> (intros; (try simp (disch := first | ((try simp (disch := first | ((try simp only [pn]) <;> omega) | fail) only [pn, pq]) <;> omega) | fail) only [pn, pq]) <;> omega))⟩)))
  have hFS1 : F_X8_forget S S1 := by rw [eS1]; exact hFS
  have je2 : ((b0g_count (b2g_questions (b8g_now S1)))).toInt = ((0 : Int32)).toInt := by rw [eS1]
  try simp (disch := first | ((try simp (disch := first | ((try simp only [pn]) <;> omega) | fail) only [pn, pq]) <;> omega) | fail) only [pn, pq] at je2
  have jf3 := J0g_count (J2g_questions (J8g_now hJS1))
  exact hq _ _ hJS1 hFS1 (by (try simp (disch := first | ((try simp (disch := first | ((try simp only [pn]) <;> omega) | fail) only [pn, pq]) <;> omega) | fail) only [pn, pq]) <;> (intros; (try simp (disch := first | ((try simp (disch := first | ((try simp only [pn]) <;> omega) | fail) only [pn, pq]) <;> omega) | fail) only [pn, pq]) <;> omega)) (by (try simp (disch := first | ((try simp (disch := first | ((try simp only [pn]) <;> omega) | fail) only [pn, pq]) <;> omega) | fail) only [pn, pq]) <;> (intros; (try simp (disch := first | ((try simp (disch := first | ((try simp only [pn]) <;> omega) | fail) only [pn, pq]) <;> omega) | fail) only [pn, pq]) <;> omega))
def F_X8_tuned (S u : bT8) : Prop := (b8g_now u) = (b8g_now S) ∧ (b8g_kept u) = (b8g_kept S) ∧ (b8g_isKept u) = (b8g_isKept S) ∧ (b8g_leaves u) = (b8g_leaves S) ∧ (b8g_tree u) = (b8g_tree S) ∧ (b8g_trial u) = (b8g_trial S) ∧ (b8g_tape u) = (b8g_tape S) ∧ (b8g_text u) = (b8g_text S) ∧ (b8g_chosenRow u) = (b8g_chosenRow S)
set_option maxRecDepth 20000 in
set_option maxHeartbeats 8000000 in
theorem sf_X8_tuned {S : bT8} (hJ : J8 S) {a1 : Int32} {a2 : Int32} {Q : Int32 → (bT8) → Prop} (hq : ∀ (r : Int32) (u : bT8), (J8 u) → F_X8_tuned S u → Q r u) : wp_X8_tuned S a1 a2 Q := by
  unfold wp_X8_tuned
  have hFS : F_X8_tuned S S := ⟨rfl, rfl, rfl, rfl, rfl, rfl, rfl, rfl, rfl⟩
  have rga1 := pt_rg a1
  have rga2 := pt_rg a2
  refine ⟨fun c1 => ?_, fun c1 => ?_⟩
  · try simp (disch := first | ((try simp (disch := first | ((try simp only [pn]) <;> omega) | fail) only [pn, pq]) <;> omega) | fail) only [pn, pq] at c1
    exact hq _ _ hJ hFS 
  · try simp (disch := first | ((try simp (disch := first | ((try simp only [pn]) <;> omega) | fail) only [pn, pq]) <;> omega) | fail) only [pn, pq] at c1
    refine ⟨fun c2 => ?_, fun c2 => ?_⟩
    · try simp (disch := first | ((try simp (disch := first | ((try simp only [pn]) <;> omega) | fail) only [pn, pq]) <;> omega) | fail) only [pn, pq] at c2
      exact hq _ _ hJ hFS 
    · try simp (disch := first | ((try simp (disch := first | ((try simp only [pn]) <;> omega) | fail) only [pn, pq]) <;> omega) | fail) only [pn, pq] at c2
      refine ⟨fun c3 => ?_, fun c3 => ?_⟩
      · try simp (disch := first | ((try simp (disch := first | ((try simp only [pn]) <;> omega) | fail) only [pn, pq]) <;> omega) | fail) only [pn, pq] at c3
        exact hq _ _ hJ hFS 
      · try simp (disch := first | ((try simp (disch := first | ((try simp only [pn]) <;> omega) | fail) only [pn, pq]) <;> omega) | fail) only [pn, pq] at c3
        refine ⟨fun c4 => ?_, fun c4 => ?_⟩
        · try simp (disch := first | ((try simp (disch := first | ((try simp only [pn]) <;> omega) | fail) only [pn, pq]) <;> omega) | fail) only [pn, pq] at c4
          refine sf_X7_tune (S := ((b8g_tuning S), (b8g_leaves S), (b2g_questions (b8g_now S)))) ⟨(J8g_tuning hJ), (J8g_leaves hJ), (J2g_questions (J8g_now hJ))⟩ (by (try simp (disch := first | ((try simp (disch := first | ((try simp only [pn]) <;> omega) | fail) only [pn, pq]) <;> omega) | fail) only [pn, pq]) <;> (intros; (try simp (disch := first | ((try simp (disch := first | ((try simp only [pn]) <;> omega) | fail) only [pn, pq]) <;> omega) | fail) only [pn, pq]) <;> omega)) (fun u6 hJu6 hfu6  => ?_)
          intro S7 eS7
          have hGS7 : F_X8_tuned S S7 := by
            rw [eS7]
            rw [hfu6.2]
            exact ⟨hFS.1, hFS.2.1, hFS.2.2.1, (congrArg (fun z => z) hfu6.1).trans hFS.2.2.2.1, hFS.2.2.2.2.1, hFS.2.2.2.2.2.1, hFS.2.2.2.2.2.2.1, hFS.2.2.2.2.2.2.2.1, hFS.2.2.2.2.2.2.2.2⟩
          have hJS7 : J8 S7 := by rw [eS7]; exact (J8s_now (J8s_leaves (J8s_tuning hJ hJu6.1) hJu6.2.1) (J2s_questions (J8g_now (J8s_leaves (J8s_tuning hJ hJu6.1) hJu6.2.1)) hJu6.2.2))
          have hFS7 : F_X8_tuned S S7 := hGS7
          have je1 : ((b7g_falsely (b8g_tuning S7))).toInt = ((b7g_falsely u6.1)).toInt := by rw [eS7]
          try simp (disch := first | ((try simp (disch := first | ((try simp only [pn]) <;> omega) | fail) only [pn, pq]) <;> omega) | fail) only [pn, pq] at je1
          have je2 : ((b7g_hashBits (b8g_tuning S7))).toInt = ((b7g_hashBits u6.1)).toInt := by rw [eS7]
          try simp (disch := first | ((try simp (disch := first | ((try simp only [pn]) <;> omega) | fail) only [pn, pq]) <;> omega) | fail) only [pn, pq] at je2
          have je3 : ((b7g_realBits (b8g_tuning S7))).toInt = ((b7g_realBits u6.1)).toInt := by rw [eS7]
          try simp (disch := first | ((try simp (disch := first | ((try simp only [pn]) <;> omega) | fail) only [pn, pq]) <;> omega) | fail) only [pn, pq] at je3
          refine ⟨fun c8 => ?_, fun c8 => ?_⟩
          · try simp (disch := first | ((try simp (disch := first | ((try simp only [pn]) <;> omega) | fail) only [pn, pq]) <;> omega) | fail) only [pn, pq] at c8
            refine ⟨fun c9 => ?_, fun c9 => ?_⟩
            · try simp (disch := first | ((try simp (disch := first | ((try simp only [pn]) <;> omega) | fail) only [pn, pq]) <;> omega) | fail) only [pn, pq] at c9
              exact hq _ _ hJS7 hFS7 
            · try simp (disch := first | ((try simp (disch := first | ((try simp only [pn]) <;> omega) | fail) only [pn, pq]) <;> omega) | fail) only [pn, pq] at c9
              exact hq _ _ hJS7 hFS7 
          · try simp (disch := first | ((try simp (disch := first | ((try simp only [pn]) <;> omega) | fail) only [pn, pq]) <;> omega) | fail) only [pn, pq] at c8
            exact hq _ _ hJS7 hFS7 
        · try simp (disch := first | ((try simp (disch := first | ((try simp only [pn]) <;> omega) | fail) only [pn, pq]) <;> omega) | fail) only [pn, pq] at c4
          exact hq _ _ hJ hFS 
def F_X8_storm (S u : bT8) : Prop := (b2g_told (b8g_now u)) = (b2g_told (b8g_now S)) ∧ (b2g_built (b8g_now u)) = (b2g_built (b8g_now S)) ∧ (b2g_questions (b8g_now u)) = (b2g_questions (b8g_now S)) ∧ (b8g_kept u) = (b8g_kept S) ∧ (b8g_isKept u) = (b8g_isKept S) ∧ (b8g_leaves u) = (b8g_leaves S) ∧ (b8g_tree u) = (b8g_tree S) ∧ (b8g_tuning u) = (b8g_tuning S) ∧ (b8g_trial u) = (b8g_trial S) ∧ (b8g_tape u) = (b8g_tape S) ∧ (b8g_text u) = (b8g_text S) ∧ (b8g_chosenRow u) = (b8g_chosenRow S)
theorem sf_X8_storm {S : bT8} (hJ : J8 S) {a1 : Int32} {a2 : Int32} {Q : Int32 → (bT8) → Prop} (hq : ∀ (r : Int32) (u : bT8), (J8 u) → F_X8_storm S u → (b2g_draws (b8g_now u) = filS a1 a2 200 (b2g_draws (b8g_now S))) → (LVO (b8g_leaves S) → (1 ≤ a1.toInt ∧ a1.toInt ≤ 200 ∧ 1 ≤ a2.toInt ∧ a2.toInt ≤ 8 → STR (fun j v => VRD (b0g_bytes (b1g_owners (b8g_leaves S))) (b0g_lengths (b1g_owners (b8g_leaves S))) (b0g_count (b1g_owners (b8g_leaves S))).toInt (b1g_realBits (b8g_leaves S)) (b1g_salt (b8g_leaves S)) (b1g_hashBits (b8g_leaves S)) (KN (b3g_values (b2g_told (b8g_now S)) 4) a2 (b2g_draws (b8g_now S)) j) (NN a2 (b2g_draws (b8g_now S)) j) v.toInt) 0 a1.toInt.toNat (b2g_answers (b8g_now S)) (b2g_answers (b8g_now u)) r) ∧ (¬ (1 ≤ a1.toInt ∧ a1.toInt ≤ 200 ∧ 1 ≤ a2.toInt ∧ a2.toInt ≤ 8) → r.toInt = -1 ∧ u = S)) → Q r u) : wp_X8_storm S a1 a2 Q := by
  unfold wp_X8_storm
  have bad : ¬ (1 ≤ a1.toInt ∧ a1.toInt ≤ 200 ∧ 1 ≤ a2.toInt ∧ a2.toInt ≤ 8) → Q (-1) S := by
    intro h
    exact hq _ _ hJ ⟨rfl, rfl, rfl, rfl, rfl, rfl, rfl, rfl, rfl, rfl, rfl, rfl⟩ (filS_0 h).symm (fun _ => ⟨fun g => absurd g h, fun _ => ⟨rfl, rfl⟩⟩)
  refine ⟨fun c => bad ?_, fun c => ⟨fun d => bad ?_, fun d => sf_X8_isLength (fun r1 hz h1 => ⟨fun g => ?_, fun g => bad ?_⟩)⟩⟩
  · simp only [pn] at c; omega
  · simp only [pn] at d; omega
  rotate_left
  · simp only [pn] at g; omega
  simp only [pn] at c d g
  have hok : 1 ≤ a1.toInt ∧ a1.toInt ≤ 200 ∧ 1 ≤ a2.toInt ∧ a2.toInt ≤ 8 := by omega
  unfold wp_X8_storm_26
  refine ⟨fun n x1 x2 x3 x4 V => x1 = a1 ∧ x2 = a2 ∧ 0 ≤ x4.toInt ∧ x4.toInt ≤ a1.toInt ∧ J8 V ∧ F_X8_storm S V ∧ b2g_draws (b8g_now V) = stpN a2 x4.toInt.toNat (b2g_draws (b8g_now S)) ∧ (LVO (b8g_leaves S) → STR (fun j v => VRD (b0g_bytes (b1g_owners (b8g_leaves S))) (b0g_lengths (b1g_owners (b8g_leaves S))) (b0g_count (b1g_owners (b8g_leaves S))).toInt (b1g_realBits (b8g_leaves S)) (b1g_salt (b8g_leaves S)) (b1g_hashBits (b8g_leaves S)) (KN (b3g_values (b2g_told (b8g_now S)) 4) a2 (b2g_draws (b8g_now S)) j) (NN a2 (b2g_draws (b8g_now S)) j) v.toInt) 0 x4.toInt.toNat (b2g_answers (b8g_now S)) (b2g_answers (b8g_now V)) x3) ∧ n = (a1.toInt - x4.toInt).toNat, ⟨_, rfl, rfl, by decide, by rw [pl_0]; omega, hJ, ⟨rfl, rfl, rfl, rfl, rfl, rfl, rfl, rfl, rfl, rfl, rfl, rfl⟩, by rw [z0, stpN0], fun _ => by rw [z0]; exact ⟨rfl, rfl⟩, rfl⟩, ?_⟩
  rintro n x1 x2 x3 x4 V ⟨e1, e2, h0, h1', hJV, hFV, hd, hC, hn⟩
  unfold wp_X8_storm_26b
  rw [e1, e2]
  refine ⟨fun c2 => ?_, fun c2 => ?_⟩
  · simp only [pn] at c2
    have ex : x4.toInt = a1.toInt := by omega
    rw [ex] at hd hC
    exact hq _ _ hJV hFV (hd.trans (filS_1 hok).symm) (fun o => ⟨fun _ => hC o, fun h => absurd hok h⟩)
  simp only [pn] at c2
  have x4' : (x4 + 1).toInt = x4.toInt + 1 := by rw [pt_add (by rw [pl_1]; omega) (by rw [pl_1]; omega), pl_1]
  have ht : b2g_told (b8g_now V) = b2g_told (b8g_now S) := hFV.1
  have hl : b8g_leaves V = b8g_leaves S := hFV.2.2.2.2.2.1
  refine sf_X2_draw (J8g_now hJV) (fun r1 u2 hJ2 hf2 d2 q2 => ?_)
  intro S3 e3
  have n3 : b8g_now S3 = u2 := by rw [e3]
  have hJ3 : J8 S3 := by rw [e3]; exact J8s_now hJV hJ2
  rw [n3]
  have er : r1 + 1 = NN a2 (b2g_draws (b8g_now S)) x4.toInt.toNat := by
    rw [q2, d2, hd, Int32.add_comm]
    rfl
  have rN := NN_rng (m := a2) (s := b2g_draws (b8g_now S)) (i := x4.toInt.toNat) (by omega) (by omega)
  refine sf_X2_drawBytes hJ2 (fun r4 u5 hJ5 hf5 d5 k5 => ?_)
  intro S6 e6
  have n6 : b8g_now S6 = u5 := by rw [e6]
  have l6 : b8g_leaves S6 = b8g_leaves S := by rw [e6, e3]; exact hl
  have t5 : b2g_told u5 = b2g_told (b8g_now V) := (hf5.1).trans (hf2.1)
  have t2 : b2g_told u2 = b2g_told (b8g_now V) := hf2.1
  have b5 : b2g_built u5 = b2g_built (b8g_now V) := (hf5.2.1).trans (hf2.2.1)
  have c5 : b2g_questions u5 = b2g_questions (b8g_now V) := (hf5.2.2.1).trans (hf2.2.2.1)
  have a5 : b2g_answers u5 = b2g_answers (b8g_now V) := (hf5.2.2.2).trans (hf2.2.2.2)
  have hJ6 : J8 S6 := by rw [e6]; exact J8s_now hJ3 hJ5
  have ek : r4 = KN (b3g_values (b2g_told (b8g_now S)) 4) a2 (b2g_draws (b8g_now S)) x4.toInt.toNat := by
    rw [k5 (by rw [er]; omega) (by rw [er]; omega), er, d2, hd, t2, ht]
    rfl
  have d5' : b2g_draws u5 = stpN a2 (x4 + 1).toInt.toNat (b2g_draws (b8g_now S)) := by
    rw [d5, d2, hd, stpN_s h0 (by omega), er]
    rfl
  refine sf_X8_askKey hJ6 (fun r7 u8 hJ8 hf8 p0 p2 h7 h8 => ?_)
  have hF8 : F_X8_storm S u8 := by
    have q1 : b2g_told (b8g_now u8) = b2g_told (b8g_now S) := (hf8.1).trans (by rw [n6, t5]; exact ht)
    have q2 : b2g_built (b8g_now u8) = b2g_built (b8g_now S) := (hf8.2.1).trans (by rw [n6, b5]; exact hFV.2.1)
    have q3 : b2g_questions (b8g_now u8) = b2g_questions (b8g_now S) := (hf8.2.2.1).trans (by rw [n6, c5]; exact hFV.2.2.1)
    exact ⟨q1, q2, q3, (hf8.2.2.2.2.1).trans (by rw [e6, e3]; exact hFV.2.2.2.1), (hf8.2.2.2.2.2.1).trans (by rw [e6, e3]; exact hFV.2.2.2.2.1), (hf8.2.2.2.2.2.2.1).trans l6, (hf8.2.2.2.2.2.2.2.1).trans (by rw [e6, e3]; exact hFV.2.2.2.2.2.2.1), (hf8.2.2.2.2.2.2.2.2.1).trans (by rw [e6, e3]; exact hFV.2.2.2.2.2.2.2.1), (hf8.2.2.2.2.2.2.2.2.2.1).trans (by rw [e6, e3]; exact hFV.2.2.2.2.2.2.2.2.1), (hf8.2.2.2.2.2.2.2.2.2.2.1).trans (by rw [e6, e3]; exact hFV.2.2.2.2.2.2.2.2.2.1), (hf8.2.2.2.2.2.2.2.2.2.2.2.1).trans (by rw [e6, e3]; exact hFV.2.2.2.2.2.2.2.2.2.2.1), (hf8.2.2.2.2.2.2.2.2.2.2.2.2).trans (by rw [e6, e3]; exact hFV.2.2.2.2.2.2.2.2.2.2.2)⟩
  have d8 : b2g_draws (b8g_now u8) = stpN a2 (x4 + 1).toInt.toNat (b2g_draws (b8g_now S)) := (hf8.2.2.2.1).trans (by rw [n6]; exact d5')
  rw [l6, ek, er] at h7
  rw [n6, a5] at h8
  have next : ∀ y3 : Int32, y3 = x3 + IS2 r7 → wp_X8_storm_70 u8 a1 a2 y3 x4 Q (fun x1 x2 x3 x4 S_1 => ∃ n2 : Nat, n2 < n ∧ x1 = a1 ∧ x2 = a2 ∧ 0 ≤ x4.toInt ∧ x4.toInt ≤ a1.toInt ∧ J8 S_1 ∧ F_X8_storm S S_1 ∧ b2g_draws (b8g_now S_1) = stpN a2 x4.toInt.toNat (b2g_draws (b8g_now S)) ∧ (LVO (b8g_leaves S) → STR (fun j v => VRD (b0g_bytes (b1g_owners (b8g_leaves S))) (b0g_lengths (b1g_owners (b8g_leaves S))) (b0g_count (b1g_owners (b8g_leaves S))).toInt (b1g_realBits (b8g_leaves S)) (b1g_salt (b8g_leaves S)) (b1g_hashBits (b8g_leaves S)) (KN (b3g_values (b2g_told (b8g_now S)) 4) a2 (b2g_draws (b8g_now S)) j) (NN a2 (b2g_draws (b8g_now S)) j) v.toInt) 0 x4.toInt.toNat (b2g_answers (b8g_now S)) (b2g_answers (b8g_now S_1)) x3) ∧ n2 = (a1.toInt - x4.toInt).toNat) := by
    intro y3 hy
    unfold wp_X8_storm_70
    refine ⟨_, ?_, rfl, rfl, by omega, by omega, hJ8, hF8, d8, fun o => STR_step h0 (by omega) (hC o) (h7 o rN.1 rN.2) h8 hy, rfl⟩
    omega
  exact ⟨fun e => next x3 (by rw [IS2_n e, Int32.add_zero]), fun e => next (x3 + 1) (by rw [IS2_y e])⟩
def F_X8_stormRange (S u : bT8) : Prop := (b2g_told (b8g_now u)) = (b2g_told (b8g_now S)) ∧ (b2g_built (b8g_now u)) = (b2g_built (b8g_now S)) ∧ (b2g_questions (b8g_now u)) = (b2g_questions (b8g_now S)) ∧ (b8g_kept u) = (b8g_kept S) ∧ (b8g_isKept u) = (b8g_isKept S) ∧ (b8g_leaves u) = (b8g_leaves S) ∧ (b8g_tree u) = (b8g_tree S) ∧ (b8g_tuning u) = (b8g_tuning S) ∧ (b8g_trial u) = (b8g_trial S) ∧ (b8g_tape u) = (b8g_tape S) ∧ (b8g_text u) = (b8g_text S) ∧ (b8g_chosenRow u) = (b8g_chosenRow S)
theorem sf_X8_stormRange {S : bT8} (hJ : J8 S) {a1 : Int32} {a2 : Int32} {a3 : Int32} {Q : Int32 → (bT8) → Prop} (hq : ∀ (r : Int32) (u : bT8), (J8 u) → F_X8_stormRange S u → (b2g_draws (b8g_now u) = filR a1 a2 a3 (b2g_draws (b8g_now S))) → (LVO (b8g_leaves S) → (1 ≤ a1.toInt ∧ a1.toInt ≤ 200 ∧ 1 ≤ a2.toInt ∧ a2.toInt ≤ 8 ∧ 0 ≤ a3.toInt ∧ a3.toInt ≤ 255 → STR (fun j v => STQ (b0g_bytes (b1g_owners (b8g_leaves S))) (b0g_lengths (b1g_owners (b8g_leaves S))) (b0g_count (b1g_owners (b8g_leaves S))).toInt (b1g_realBits (b8g_leaves S)) (KN (b3g_values (b2g_told (b8g_now S)) 4) a2 (b2g_draws (b8g_now S)) j) (NN a2 (b2g_draws (b8g_now S)) j) a3 v) 3 a1.toInt.toNat (b2g_answers (b8g_now S)) (b2g_answers (b8g_now u)) r) ∧ (¬ (1 ≤ a1.toInt ∧ a1.toInt ≤ 200 ∧ 1 ≤ a2.toInt ∧ a2.toInt ≤ 8 ∧ 0 ≤ a3.toInt ∧ a3.toInt ≤ 255) → r.toInt = -1 ∧ u = S)) → Q r u) : wp_X8_stormRange S a1 a2 a3 Q := by
  unfold wp_X8_stormRange
  have bad : ¬ (1 ≤ a1.toInt ∧ a1.toInt ≤ 200 ∧ 1 ≤ a2.toInt ∧ a2.toInt ≤ 8 ∧ 0 ≤ a3.toInt ∧ a3.toInt ≤ 255) → Q (-1) S := by
    intro h
    exact hq _ _ hJ ⟨rfl, rfl, rfl, rfl, rfl, rfl, rfl, rfl, rfl, rfl, rfl, rfl⟩ (filR_0 h).symm (fun _ => ⟨fun g => absurd g h, fun _ => ⟨rfl, rfl⟩⟩)
  refine ⟨fun c => bad ?_, fun c => ⟨fun d => bad ?_, fun d => sf_X8_isLength (fun r1 hz h1 => ⟨fun g => bad ?_, fun g => ⟨fun k => bad ?_, fun k => ⟨fun l => ?_, fun l => bad ?_⟩⟩⟩)⟩⟩
  · simp only [pn] at c; omega
  · simp only [pn] at d; omega
  · simp only [pn] at g; omega
  · simp only [pn] at k; omega
  rotate_left
  · simp only [pn] at l; omega
  simp only [pn] at c d g k l
  have hok : 1 ≤ a1.toInt ∧ a1.toInt ≤ 200 ∧ 1 ≤ a2.toInt ∧ a2.toInt ≤ 8 ∧ 0 ≤ a3.toInt ∧ a3.toInt ≤ 255 := by omega
  unfold wp_X8_stormRange_38
  refine ⟨fun n x1 x2 x3 x4 x5 V => x1 = a1 ∧ x2 = a2 ∧ x3 = a3 ∧ 0 ≤ x5.toInt ∧ x5.toInt ≤ a1.toInt ∧ J8 V ∧ F_X8_stormRange S V ∧ b2g_draws (b8g_now V) = stpN a2 x5.toInt.toNat (b2g_draws (b8g_now S)) ∧ (LVO (b8g_leaves S) → STR (fun j v => STQ (b0g_bytes (b1g_owners (b8g_leaves S))) (b0g_lengths (b1g_owners (b8g_leaves S))) (b0g_count (b1g_owners (b8g_leaves S))).toInt (b1g_realBits (b8g_leaves S)) (KN (b3g_values (b2g_told (b8g_now S)) 4) a2 (b2g_draws (b8g_now S)) j) (NN a2 (b2g_draws (b8g_now S)) j) a3 v) 3 x5.toInt.toNat (b2g_answers (b8g_now S)) (b2g_answers (b8g_now V)) x4) ∧ n = (a1.toInt - x5.toInt).toNat, ⟨_, rfl, rfl, rfl, by decide, by rw [pl_0]; omega, hJ, ⟨rfl, rfl, rfl, rfl, rfl, rfl, rfl, rfl, rfl, rfl, rfl, rfl⟩, by rw [z0, stpN0], fun _ => by rw [z0]; exact ⟨rfl, rfl⟩, rfl⟩, ?_⟩
  rintro n x1 x2 x3 x4 x5 V ⟨e1, e2, e2', h0, h1', hJV, hFV, hd, hC, hn⟩
  unfold wp_X8_stormRange_38b
  rw [e1, e2, e2']
  refine ⟨fun c2 => ?_, fun c2 => ?_⟩
  · simp only [pn] at c2
    have ex : x5.toInt = a1.toInt := by omega
    rw [ex] at hd hC
    exact hq _ _ hJV hFV (hd.trans (filR_1 hok).symm) (fun o => ⟨fun _ => hC o, fun h => absurd hok h⟩)
  simp only [pn] at c2
  have x5' : (x5 + 1).toInt = x5.toInt + 1 := by rw [pt_add (by rw [pl_1]; omega) (by rw [pl_1]; omega), pl_1]
  have ht : b2g_told (b8g_now V) = b2g_told (b8g_now S) := hFV.1
  have hl : b8g_leaves V = b8g_leaves S := hFV.2.2.2.2.2.1
  refine sf_X2_draw (J8g_now hJV) (fun r1 u2 hJ2 hf2 d2 q2 => ?_)
  intro S3 e3
  have n3 : b8g_now S3 = u2 := by rw [e3]
  have hJ3 : J8 S3 := by rw [e3]; exact J8s_now hJV hJ2
  rw [n3]
  have er : r1 + 1 = NN a2 (b2g_draws (b8g_now S)) x5.toInt.toNat := by
    rw [q2, d2, hd, Int32.add_comm]
    rfl
  have rN := NN_rng (m := a2) (s := b2g_draws (b8g_now S)) (i := x5.toInt.toNat) (by omega) (by omega)
  refine sf_X2_drawBytes hJ2 (fun r4 u5 hJ5 hf5 d5 k5 => ?_)
  intro S6 e6
  have n6 : b8g_now S6 = u5 := by rw [e6]
  have l6 : b8g_leaves S6 = b8g_leaves S := by rw [e6, e3]; exact hl
  have t5 : b2g_told u5 = b2g_told (b8g_now V) := (hf5.1).trans (hf2.1)
  have t2 : b2g_told u2 = b2g_told (b8g_now V) := hf2.1
  have b5 : b2g_built u5 = b2g_built (b8g_now V) := (hf5.2.1).trans (hf2.2.1)
  have c5 : b2g_questions u5 = b2g_questions (b8g_now V) := (hf5.2.2.1).trans (hf2.2.2.1)
  have a5 : b2g_answers u5 = b2g_answers (b8g_now V) := (hf5.2.2.2).trans (hf2.2.2.2)
  have hJ6 : J8 S6 := by rw [e6]; exact J8s_now hJ3 hJ5
  have ek : r4 = KN (b3g_values (b2g_told (b8g_now S)) 4) a2 (b2g_draws (b8g_now S)) x5.toInt.toNat := by
    rw [k5 (by rw [er]; omega) (by rw [er]; omega), er, d2, hd, t2, ht]
    rfl
  have d5' : b2g_draws u5 = stpN a2 (x5 + 1).toInt.toNat (b2g_draws (b8g_now S)) := by
    rw [d5, d2, hd, stpN_s h0 (by omega), er]
    rfl
  rw [er]
  obtain ⟨N, hN⟩ : ∃ N : Int32, NN a2 (b2g_draws (b8g_now S)) x5.toInt.toNat = N := ⟨_, rfl⟩
  rw [hN] at rN ⊢
  obtain ⟨L, hL⟩ : ∃ L : Int32, N - 1 = L := ⟨_, rfl⟩
  have eL : L.toInt = N.toInt - 1 := by rw [← hL, pt_sub (by rw [pl_1]; omega) (by rw [pl_1]; omega), pl_1]
  rw [hL]
  refine fx_octetAt (fun r7 g7 _ => fx_front2 (fun r9 g9 g90 => fx_octetTo (fun r11 g11 => ?_)))
  obtain ⟨o, ho⟩ : ∃ o : Int32, (if (255 : Int32) < (r7 + a3) then (255 : Int32) else (r7 + a3)) = o := ⟨_, rfl⟩
  rw [ho] at g11
  have r7r := OCT_rng r4 (i := L) (by omega) (by omega)
  rw [← g7 (by omega) (by omega)] at r7r
  have ea : (r7 + a3).toInt = r7.toInt + a3.toInt := pt_add (by omega) (by omega)
  have eo : o.toInt = min ((OCT r4 L).toInt + a3.toInt) 255 := by
    rw [← g7 (by omega) (by omega), ← ho]
    by_cases z : (255 : Int32) < r7 + a3
    · rw [if_pos z]
      simp only [pn] at z
      rw [ea] at z
      rw [show ((255 : Int32)).toInt = 255 from rfl]
      omega
    · rw [if_neg z]
      simp only [pn] at z
      rw [ea] at z ⊢
      omega
  have et := to_cls (k := r4) (w := a3) (n := N.toInt.toNat) (by omega) (by omega) (by omega) (by omega) (by omega) g9 g90 eo (g11 (by omega) (by omega))
  refine sf_X8_askRange hJ6 (fun r13 u14 hJ8 hf8 h7 h8 => ?_)
  have hF8 : F_X8_stormRange S u14 := by
    have q1 : b2g_told (b8g_now u14) = b2g_told (b8g_now S) := (hf8.1).trans (by rw [n6, t5]; exact ht)
    have q2 : b2g_built (b8g_now u14) = b2g_built (b8g_now S) := (hf8.2.1).trans (by rw [n6, b5]; exact hFV.2.1)
    have q3 : b2g_questions (b8g_now u14) = b2g_questions (b8g_now S) := (hf8.2.2.1).trans (by rw [n6, c5]; exact hFV.2.2.1)
    exact ⟨q1, q2, q3, (hf8.2.2.2.2.1).trans (by rw [e6, e3]; exact hFV.2.2.2.1), (hf8.2.2.2.2.2.1).trans (by rw [e6, e3]; exact hFV.2.2.2.2.1), (hf8.2.2.2.2.2.2.1).trans l6, (hf8.2.2.2.2.2.2.2.1).trans (by rw [e6, e3]; exact hFV.2.2.2.2.2.2.1), (hf8.2.2.2.2.2.2.2.2.1).trans (by rw [e6, e3]; exact hFV.2.2.2.2.2.2.2.1), (hf8.2.2.2.2.2.2.2.2.2.1).trans (by rw [e6, e3]; exact hFV.2.2.2.2.2.2.2.2.1), (hf8.2.2.2.2.2.2.2.2.2.2.1).trans (by rw [e6, e3]; exact hFV.2.2.2.2.2.2.2.2.2.1), (hf8.2.2.2.2.2.2.2.2.2.2.2.1).trans (by rw [e6, e3]; exact hFV.2.2.2.2.2.2.2.2.2.2.1), (hf8.2.2.2.2.2.2.2.2.2.2.2.2).trans (by rw [e6, e3]; exact hFV.2.2.2.2.2.2.2.2.2.2.2)⟩
  have d8 : b2g_draws (b8g_now u14) = stpN a2 (x5 + 1).toInt.toNat (b2g_draws (b8g_now S)) := (hf8.2.2.2.1).trans (by rw [n6]; exact d5')
  rw [l6] at h7
  rw [n6, a5] at h8
  have hv : LVO (b8g_leaves S) → STQ (b0g_bytes (b1g_owners (b8g_leaves S))) (b0g_lengths (b1g_owners (b8g_leaves S))) (b0g_count (b1g_owners (b8g_leaves S))).toInt (b1g_realBits (b8g_leaves S)) (KN (b3g_values (b2g_told (b8g_now S)) 4) a2 (b2g_draws (b8g_now S)) x5.toInt.toNat) (NN a2 (b2g_draws (b8g_now S)) x5.toInt.toNat) a3 r13 := by
    intro o'
    rw [← ek, hN]
    exact ⟨_, et, h7 o' rN.1 rN.2 rN.1 rN.2⟩
  have next : ∀ y4 : Int32, y4 = x4 + IS2 r13 → wp_X8_stormRange_127 u14 a1 a2 a3 y4 x5 Q (fun x1 x2 x3 x4 x5 S_1 => ∃ n2 : Nat, n2 < n ∧ x1 = a1 ∧ x2 = a2 ∧ x3 = a3 ∧ 0 ≤ x5.toInt ∧ x5.toInt ≤ a1.toInt ∧ J8 S_1 ∧ F_X8_stormRange S S_1 ∧ b2g_draws (b8g_now S_1) = stpN a2 x5.toInt.toNat (b2g_draws (b8g_now S)) ∧ (LVO (b8g_leaves S) → STR (fun j v => STQ (b0g_bytes (b1g_owners (b8g_leaves S))) (b0g_lengths (b1g_owners (b8g_leaves S))) (b0g_count (b1g_owners (b8g_leaves S))).toInt (b1g_realBits (b8g_leaves S)) (KN (b3g_values (b2g_told (b8g_now S)) 4) a2 (b2g_draws (b8g_now S)) j) (NN a2 (b2g_draws (b8g_now S)) j) a3 v) 3 x5.toInt.toNat (b2g_answers (b8g_now S)) (b2g_answers (b8g_now S_1)) x4) ∧ n2 = (a1.toInt - x5.toInt).toNat) := by
    intro y4 hy
    unfold wp_X8_stormRange_127
    refine ⟨_, ?_, rfl, rfl, rfl, by omega, by omega, hJ8, hF8, d8, fun o' => STR_step h0 (by omega) (hC o') (hv o') h8 hy, rfl⟩
    omega
  exact ⟨fun e => next x4 (by rw [IS2_n e, Int32.add_zero]), fun e => next (x4 + 1) (by rw [IS2_y e])⟩
theorem sf_X8_account {S : bT8} (hJ : J8 S) {a1 : Int32} {Q : Int32 → Prop} (hq : ∀ r : Int32, ((0 ≤ a1.toInt ∧ a1.toInt ≤ 5 → r = b2g_answers (b8g_now S) a1.toNatClampNeg) ∧ (¬ (0 ≤ a1.toInt ∧ a1.toInt ≤ 5) → r.toInt = -1)) → Q r) : wp_X8_account S a1 Q := by
  unfold wp_X8_account
  refine ⟨fun c => hq _ ⟨fun h => ?_, fun _ => rfl⟩, fun c => ⟨fun d => hq _ ⟨fun h => ?_, fun _ => rfl⟩, fun d => ?_⟩⟩
  · simp only [pn] at c; omega
  · simp only [pn] at d; omega
  · simp only [pn] at c d
    exact fx_at6 (by omega) (by omega) (hq _ ⟨fun _ => rfl, fun h => by omega⟩)
theorem sf_X8_newOnesThatMayBe {S : bT8} (hJ : J8 S) {Q : Int32 → Prop} (hq : ∀ r : Int32, (LVO (b8g_leaves S) ∧ SRT (b0g_bytes (b3g_members (b2g_told (b8g_now S)))) (b0g_lengths (b3g_members (b2g_told (b8g_now S)))) (b0g_count (b3g_members (b2g_told (b8g_now S)))).toInt → r.toInt = CTP (fun i => VRD (b0g_bytes (b1g_owners (b8g_leaves S))) (b0g_lengths (b1g_owners (b8g_leaves S))) (b0g_count (b1g_owners (b8g_leaves S))).toInt (b1g_realBits (b8g_leaves S)) (b1g_salt (b8g_leaves S)) (b1g_hashBits (b8g_leaves S)) (b0g_bytes (b3g_members (b2g_told (b8g_now S))) i) (b0g_lengths (b3g_members (b2g_told (b8g_now S))) i) 2) (b0g_count (b3g_members (b2g_told (b8g_now S)))).toInt.toNat) → Q r) : wp_X8_newOnesThatMayBe S Q := by
  have hM := J3g_members (J2g_told (J8g_now hJ))
  have j1 := J0g_count hM
  unfold wp_X8_newOnesThatMayBe wp_X8_newOnesThatMayBe_15
  refine ⟨fun n x2 x3 => 0 ≤ x3.toInt ∧ x3.toInt ≤ (b0g_count (b3g_members (b2g_told (b8g_now S)))).toInt ∧ 0 ≤ x2.toInt ∧ x2.toInt ≤ x3.toInt ∧ ((LVO (b8g_leaves S) ∧ SRT (b0g_bytes (b3g_members (b2g_told (b8g_now S)))) (b0g_lengths (b3g_members (b2g_told (b8g_now S)))) (b0g_count (b3g_members (b2g_told (b8g_now S)))).toInt) → x2.toInt = CTP (fun i => (VRD (b0g_bytes (b1g_owners (b8g_leaves S))) (b0g_lengths (b1g_owners (b8g_leaves S))) (b0g_count (b1g_owners (b8g_leaves S))).toInt (b1g_realBits (b8g_leaves S)) (b1g_salt (b8g_leaves S)) (b1g_hashBits (b8g_leaves S)) (b0g_bytes (b3g_members (b2g_told (b8g_now S))) i) (b0g_lengths (b3g_members (b2g_told (b8g_now S))) i) 2)) x3.toInt.toNat) ∧ n = ((b0g_count (b3g_members (b2g_told (b8g_now S)))).toInt - x3.toInt).toNat, ⟨_, by decide, by rw [pl_0]; exact j1.1, by decide, by decide, fun _ => rfl, rfl⟩, ?_⟩
  rintro n x2 x3 ⟨h0, h1, w0, w1, hI, hn⟩
  unfold wp_X8_newOnesThatMayBe_15b
  refine ⟨fun c => hq _ (fun o => ?_), fun c => ?_⟩
  · simp only [pn] at c
    rw [hI o, show x3.toInt.toNat = (b0g_count (b3g_members (b2g_told (b8g_now S)))).toInt.toNat by omega]
  simp only [pn] at c
  have cx := pt_clamp h0
  have x3' : (x3 + 1).toInt = x3.toInt + 1 := by rw [pt_add (by rw [pl_1]; omega) (by rw [pl_1]; omega), pl_1]
  have x2' : (x2 + 1).toInt = x2.toInt + 1 := by rw [pt_add (by rw [pl_1]; omega) (by rw [pl_1]; omega), pl_1]
  refine fx_bytesAt hM (fun r1 b1 _ => fx_lengthAt hM (fun r3 b3 _ => sf_X1_verdictOf (J8g_leaves hJ) (fun r5 p0 p2 h5 => ?_)))
  have e1 := b1 x3.toNatClampNeg (by omega) (by omega)
  have e3 := b3 x3.toNatClampNeg (by omega) (by omega)
  rw [e1, e3] at h5
  unfold wp_X8_newOnesThatMayBe_47
  refine ⟨fun d => ⟨_, ?_, by omega, by omega, by omega, by omega, fun o => ?_, rfl⟩, fun d => ⟨_, ?_, by omega, by omega, by omega, by omega, fun o => ?_, rfl⟩⟩
  · omega
  · have l := o.2.2 x3.toNatClampNeg (by omega)
    have v := h5 o.1 l.1 l.2
    have np : ¬ (VRD (b0g_bytes (b1g_owners (b8g_leaves S))) (b0g_lengths (b1g_owners (b8g_leaves S))) (b0g_count (b1g_owners (b8g_leaves S))).toInt (b1g_realBits (b8g_leaves S)) (b1g_salt (b8g_leaves S)) (b1g_hashBits (b8g_leaves S)) (b0g_bytes (b3g_members (b2g_told (b8g_now S))) x3.toNatClampNeg) (b0g_lengths (b3g_members (b2g_told (b8g_now S))) x3.toNatClampNeg) 2) := fun h => d (Int32.toInt_inj.mp ((VRD_one o.1.2.1 o.1.2.2.1 o.1.2.2.2.1 o.1.2.2.2.2 v h).trans pl_2.symm))
    rw [x3', show (x3.toInt + 1).toNat = x3.toNatClampNeg + 1 by omega, CTP_n (P := fun i => (VRD (b0g_bytes (b1g_owners (b8g_leaves S))) (b0g_lengths (b1g_owners (b8g_leaves S))) (b0g_count (b1g_owners (b8g_leaves S))).toInt (b1g_realBits (b8g_leaves S)) (b1g_salt (b8g_leaves S)) (b1g_hashBits (b8g_leaves S)) (b0g_bytes (b3g_members (b2g_told (b8g_now S))) i) (b0g_lengths (b3g_members (b2g_told (b8g_now S))) i) 2)) np, hI o, show x3.toInt.toNat = x3.toNatClampNeg by omega]
  · omega
  · have l := o.2.2 x3.toNatClampNeg (by omega)
    have v := h5 o.1 l.1 l.2
    rw [d, pl_2] at v
    rw [x3', show (x3.toInt + 1).toNat = x3.toNatClampNeg + 1 by omega, CTP_y (P := fun i => (VRD (b0g_bytes (b1g_owners (b8g_leaves S))) (b0g_lengths (b1g_owners (b8g_leaves S))) (b0g_count (b1g_owners (b8g_leaves S))).toInt (b1g_realBits (b8g_leaves S)) (b1g_salt (b8g_leaves S)) (b1g_hashBits (b8g_leaves S)) (b0g_bytes (b3g_members (b2g_told (b8g_now S))) i) (b0g_lengths (b3g_members (b2g_told (b8g_now S))) i) 2)) v, x2', hI o, show x3.toInt.toNat = x3.toNatClampNeg by omega]
theorem sf_X8_since {S : bT8} (hJ : J8 S) {a1 : Int32} {Q : Int32 → Prop} (hq : ∀ r : Int32, (LVO (b8g_leaves S) ∧ SRT (b0g_bytes (b3g_members (b2g_told (b8g_now S)))) (b0g_lengths (b3g_members (b2g_told (b8g_now S)))) (b0g_count (b3g_members (b2g_told (b8g_now S)))).toInt → (a1.toInt = 0 → r.toInt = CTP (NIN (b0g_bytes (b3g_members (b2g_told (b8g_now S)))) (b0g_lengths (b3g_members (b2g_told (b8g_now S)))) (b0g_bytes (b1g_owners (b8g_leaves S))) (b0g_lengths (b1g_owners (b8g_leaves S))) (b0g_count (b1g_owners (b8g_leaves S))).toInt) (b0g_count (b3g_members (b2g_told (b8g_now S)))).toInt.toNat) ∧ (a1.toInt = 1 → r.toInt = CTP (fun i => VRD (b0g_bytes (b1g_owners (b8g_leaves S))) (b0g_lengths (b1g_owners (b8g_leaves S))) (b0g_count (b1g_owners (b8g_leaves S))).toInt (b1g_realBits (b8g_leaves S)) (b1g_salt (b8g_leaves S)) (b1g_hashBits (b8g_leaves S)) (b0g_bytes (b3g_members (b2g_told (b8g_now S))) i) (b0g_lengths (b3g_members (b2g_told (b8g_now S))) i) 2) (b0g_count (b3g_members (b2g_told (b8g_now S)))).toInt.toNat) ∧ (a1.toInt = 2 → r.toInt = CTP (NIN (b0g_bytes (b1g_owners (b8g_leaves S))) (b0g_lengths (b1g_owners (b8g_leaves S))) (b0g_bytes (b3g_members (b2g_told (b8g_now S)))) (b0g_lengths (b3g_members (b2g_told (b8g_now S)))) (b0g_count (b3g_members (b2g_told (b8g_now S)))).toInt) (b0g_count (b1g_owners (b8g_leaves S))).toInt.toNat) ∧ (¬ (0 ≤ a1.toInt ∧ a1.toInt ≤ 2) → r.toInt = -1)) → Q r) : wp_X8_since S a1 Q := by
  have hM := J3g_members (J2g_told (J8g_now hJ))
  have hO := J1g_owners (J8g_leaves hJ)
  unfold wp_X8_since
  refine ⟨fun c => hq _ (fun o => ⟨fun h => ?_, fun h => ?_, fun h => ?_, fun _ => rfl⟩), fun c => sf_X0_notIn (S := ((b3g_members (b2g_told (b8g_now S))), (b1g_owners (b8g_leaves S)))) ⟨hM, hO⟩ (fun r1 h1 => hq _ (fun o => ⟨fun _ => h1 ⟨o.2, o.1.2.1⟩, fun h => ?_, fun h => ?_, fun h => ?_⟩)), fun c => sf_X8_newOnesThatMayBe hJ (fun r3 h3 => hq _ (fun o => ⟨fun h => ?_, fun _ => h3 o, fun h => ?_, fun h => ?_⟩)), fun c => sf_X0_notIn (S := ((b1g_owners (b8g_leaves S)), (b3g_members (b2g_told (b8g_now S))))) ⟨hO, hM⟩ (fun r5 h5 => hq _ (fun o => ⟨fun h => ?_, fun h => ?_, fun _ => h5 ⟨o.1.2.1, o.2⟩, fun h => ?_⟩))⟩
  · omega
  · omega
  · omega
  · rw [c, pl_0] at h; omega
  · rw [c, pl_0] at h; omega
  · rw [c, pl_0] at h; omega
  · rw [c, pl_1] at h; omega
  · rw [c, pl_1] at h; omega
  · rw [c, pl_1] at h; omega
  · rw [c, pl_2] at h; omega
  · rw [c, pl_2] at h; omega
  · rw [c, pl_2] at h; omega
def F_X8_tellFilter (S u : bT8) : Prop := (b8g_now u) = (b8g_now S) ∧ (b8g_kept u) = (b8g_kept S) ∧ (b8g_isKept u) = (b8g_isKept S) ∧ (b8g_leaves u) = (b8g_leaves S) ∧ (b8g_tree u) = (b8g_tree S) ∧ (b8g_tuning u) = (b8g_tuning S) ∧ (b8g_trial u) = (b8g_trial S) ∧ (b8g_tape u) = (b8g_tape S) ∧ (b8g_chosenRow u) = (b8g_chosenRow S)
set_option maxRecDepth 20000 in
set_option maxHeartbeats 8000000 in
theorem sj_X8_tellFilter {S : bT8} (hJ : J8 S) {Q : (bT8) → Prop} (hq : ∀ u : bT8, (J8 u) → F_X8_tellFilter S u → Q u) : wp_X8_tellFilter S Q := by
  unfold wp_X8_tellFilter
  have hFS : F_X8_tellFilter S S := ⟨rfl, rfl, rfl, rfl, rfl, rfl, rfl, rfl, rfl⟩
  have jf1 := J6g_levels (J8g_tree hJ)
  refine ⟨fun n x1q1 Sq1 => (J8 Sq1) ∧ (F_X8_tellFilter S Sq1) ∧ (0 ≤ (x1q1).toInt) ∧ n = (((b6g_levels (b8g_tree Sq1))).toInt + 1 - (x1q1).toInt).toNat, ⟨_, hJ, hFS, (by (try simp (disch := first | ((try simp (disch := first | ((try simp only [pn]) <;> omega) | fail) only [pn, pq]) <;> omega) | fail) only [pn, pq]) <;> (intros; (try simp (disch := first | ((try simp (disch := first | ((try simp only [pn]) <;> omega) | fail) only [pn, pq]) <;> omega) | fail) only [pn, pq]) <;> omega)), rfl⟩, ?_⟩
  rintro n2 x1q1 Sq1 ⟨hJSq1, hFSq1, hiq1_0, hn2⟩
  have rgx1q1 := pt_rg x1q1
  unfold wp_X8_tellFilter_2b
  have je3 : ((b6g_levels (b8g_tree Sq1))).toInt = ((b6g_levels (b8g_tree S))).toInt := congrArg (fun z => ((b6g_levels z)).toInt) hFSq1.2.2.2.2.1
  have je5 : ((b6g_upper (b8g_tree Sq1))).toInt = ((b6g_upper (b8g_tree S))).toInt := congrArg (fun z => ((b6g_upper z)).toInt) hFSq1.2.2.2.2.1
  refine ⟨fun c3 => ?_, fun c3 => ?_⟩
  · try simp (disch := first | ((try simp (disch := first | ((try simp only [pn]) <;> omega) | fail) only [pn, pq]) <;> omega) | fail) only [pn, pq] at c3
    refine sf_X5_put (J8g_text hJSq1) (fun u5 hJu5 hfu5 hr4_0 => ?_)
    intro S6 eS6
    have hGS6 : F_X8_tellFilter S S6 := by
      rw [eS6]
      exact ⟨hFSq1.1, hFSq1.2.1, hFSq1.2.2.1, hFSq1.2.2.2.1, hFSq1.2.2.2.2.1, hFSq1.2.2.2.2.2.1, hFSq1.2.2.2.2.2.2.1, hFSq1.2.2.2.2.2.2.2.1, hFSq1.2.2.2.2.2.2.2.2⟩
    have hJS6 : J8 S6 := by rw [eS6]; exact (J8s_text hJSq1 hJu5)
    have hFS6 : F_X8_tellFilter S S6 := hGS6
    have je7 : ((b6g_levels (b8g_tree S6))).toInt = ((b6g_levels (b8g_tree S))).toInt := congrArg (fun z => ((b6g_levels z)).toInt) hFS6.2.2.2.2.1
    have je9 : ((b6g_upper (b8g_tree S6))).toInt = ((b6g_upper (b8g_tree S))).toInt := congrArg (fun z => ((b6g_upper z)).toInt) hFS6.2.2.2.2.1
    exact hq _ hJS6 hFS6 
  · try simp (disch := first | ((try simp (disch := first | ((try simp only [pn]) <;> omega) | fail) only [pn, pq]) <;> omega) | fail) only [pn, pq] at c3
    refine ⟨fun c7 => ?_, fun c7 => ?_⟩
    · try simp (disch := first | ((try simp (disch := first | ((try simp only [pn]) <;> omega) | fail) only [pn, pq]) <;> omega) | fail) only [pn, pq] at c7
      unfold wp_X8_tellFilter_26
      refine sf_X8_at (by decide) (fun r8 hr8_0 => ?_)
      have rgr8 := pt_rg r8
      try simp (disch := first | ((try simp (disch := first | ((try simp only [pn]) <;> omega) | fail) only [pn, pq]) <;> omega) | fail) only [pn, pq] at hr8_0
      refine sf_X8_at (by decide) (fun r10 hr10_0 => ?_)
      have rgr10 := pt_rg r10
      try simp (disch := first | ((try simp (disch := first | ((try simp only [pn]) <;> omega) | fail) only [pn, pq]) <;> omega) | fail) only [pn, pq] at hr10_0
      refine ⟨fun c12 => ?_, fun c12 => ?_⟩
      · try simp (disch := first | ((try simp (disch := first | ((try simp only [pn]) <;> omega) | fail) only [pn, pq]) <;> omega) | fail) only [pn, pq] at c12
        unfold wp_X8_tellFilter_74
        refine sf_X5_put (J8g_text hJSq1) (fun u14 hJu14 hfu14 hr13_0 => ?_)
        intro S15 eS15
        have hGS15 : F_X8_tellFilter S S15 := by
          rw [eS15]
          exact ⟨hFSq1.1, hFSq1.2.1, hFSq1.2.2.1, hFSq1.2.2.2.1, hFSq1.2.2.2.2.1, hFSq1.2.2.2.2.2.1, hFSq1.2.2.2.2.2.2.1, hFSq1.2.2.2.2.2.2.2.1, hFSq1.2.2.2.2.2.2.2.2⟩
        have hJS15 : J8 S15 := by rw [eS15]; exact (J8s_text hJSq1 hJu14)
        have hFS15 : F_X8_tellFilter S S15 := hGS15
        have je11 : ((b6g_levels (b8g_tree S15))).toInt = ((b6g_levels (b8g_tree S))).toInt := congrArg (fun z => ((b6g_levels z)).toInt) hFS15.2.2.2.2.1
        have je13 : ((b6g_upper (b8g_tree S15))).toInt = ((b6g_upper (b8g_tree S))).toInt := congrArg (fun z => ((b6g_upper z)).toInt) hFS15.2.2.2.2.1
        refine sf_X5_putNumber (J8g_text hJS15) (fun u17 hJu17 hfu17 hr16_0 => ?_)
        intro S18 eS18
        have hGS18 : F_X8_tellFilter S S18 := by
          rw [eS18]
          exact ⟨hFS15.1, hFS15.2.1, hFS15.2.2.1, hFS15.2.2.2.1, hFS15.2.2.2.2.1, hFS15.2.2.2.2.2.1, hFS15.2.2.2.2.2.2.1, hFS15.2.2.2.2.2.2.2.1, hFS15.2.2.2.2.2.2.2.2⟩
        have hJS18 : J8 S18 := by rw [eS18]; exact (J8s_text hJS15 hJu17)
        have hFS18 : F_X8_tellFilter S S18 := hGS18
        have je15 : ((b6g_levels (b8g_tree S18))).toInt = ((b6g_levels (b8g_tree S))).toInt := congrArg (fun z => ((b6g_levels z)).toInt) hFS18.2.2.2.2.1
        have je17 : ((b6g_upper (b8g_tree S18))).toInt = ((b6g_upper (b8g_tree S))).toInt := congrArg (fun z => ((b6g_upper z)).toInt) hFS18.2.2.2.2.1
        refine sf_X5_put (J8g_text hJS18) (fun u20 hJu20 hfu20 hr19_0 => ?_)
        intro S21 eS21
        have hGS21 : F_X8_tellFilter S S21 := by
          rw [eS21]
          exact ⟨hFS18.1, hFS18.2.1, hFS18.2.2.1, hFS18.2.2.2.1, hFS18.2.2.2.2.1, hFS18.2.2.2.2.2.1, hFS18.2.2.2.2.2.2.1, hFS18.2.2.2.2.2.2.2.1, hFS18.2.2.2.2.2.2.2.2⟩
        have hJS21 : J8 S21 := by rw [eS21]; exact (J8s_text hJS18 hJu20)
        have hFS21 : F_X8_tellFilter S S21 := hGS21
        have je19 : ((b6g_levels (b8g_tree S21))).toInt = ((b6g_levels (b8g_tree S))).toInt := congrArg (fun z => ((b6g_levels z)).toInt) hFS21.2.2.2.2.1
        have je21 : ((b6g_upper (b8g_tree S21))).toInt = ((b6g_upper (b8g_tree S))).toInt := congrArg (fun z => ((b6g_upper z)).toInt) hFS21.2.2.2.2.1
        refine sf_X6_branches (J8g_tree hJS21) (fun r22  => ?_)
        have rgr22 := pt_rg r22
        refine sf_X5_putNumber (J8g_text hJS21) (fun u25 hJu25 hfu25 hr24_0 => ?_)
        intro S26 eS26
        have hGS26 : F_X8_tellFilter S S26 := by
          rw [eS26]
          exact ⟨hFS21.1, hFS21.2.1, hFS21.2.2.1, hFS21.2.2.2.1, hFS21.2.2.2.2.1, hFS21.2.2.2.2.2.1, hFS21.2.2.2.2.2.2.1, hFS21.2.2.2.2.2.2.2.1, hFS21.2.2.2.2.2.2.2.2⟩
        have hJS26 : J8 S26 := by rw [eS26]; exact (J8s_text hJS21 hJu25)
        have hFS26 : F_X8_tellFilter S S26 := hGS26
        have je23 : ((b6g_levels (b8g_tree S26))).toInt = ((b6g_levels (b8g_tree S))).toInt := congrArg (fun z => ((b6g_levels z)).toInt) hFS26.2.2.2.2.1
        have je25 : ((b6g_upper (b8g_tree S26))).toInt = ((b6g_upper (b8g_tree S))).toInt := congrArg (fun z => ((b6g_upper z)).toInt) hFS26.2.2.2.2.1
        refine ⟨_, ?_, ?_, ?_, ?_, rfl⟩
        · (try simp (disch := first | ((try simp (disch := first | ((try simp only [pn]) <;> omega) | fail) only [pn, pq]) <;> omega) | fail) only [pn, pq]) <;> (intros; (try simp (disch := first | ((try simp (disch := first | ((try simp only [pn]) <;> omega) | fail) only [pn, pq]) <;> omega) | fail) only [pn, pq]) <;> omega)
        · exact hJS26
        · exact hFS26
        · (try simp (disch := first | ((try simp (disch := first | ((try simp only [pn]) <;> omega) | fail) only [pn, pq]) <;> omega) | fail) only [pn, pq]) <;> (intros; (try simp (disch := first | ((try simp (disch := first | ((try simp only [pn]) <;> omega) | fail) only [pn, pq]) <;> omega) | fail) only [pn, pq]) <;> omega)
      · try simp (disch := first | ((try simp (disch := first | ((try simp only [pn]) <;> omega) | fail) only [pn, pq]) <;> omega) | fail) only [pn, pq] at c12
        unfold wp_X8_tellFilter_74
        refine sf_X5_put (J8g_text hJSq1) (fun u28 hJu28 hfu28 hr27_0 => ?_)
        intro S29 eS29
        have hGS29 : F_X8_tellFilter S S29 := by
          rw [eS29]
          exact ⟨hFSq1.1, hFSq1.2.1, hFSq1.2.2.1, hFSq1.2.2.2.1, hFSq1.2.2.2.2.1, hFSq1.2.2.2.2.2.1, hFSq1.2.2.2.2.2.2.1, hFSq1.2.2.2.2.2.2.2.1, hFSq1.2.2.2.2.2.2.2.2⟩
        have hJS29 : J8 S29 := by rw [eS29]; exact (J8s_text hJSq1 hJu28)
        have hFS29 : F_X8_tellFilter S S29 := hGS29
        have je27 : ((b6g_levels (b8g_tree S29))).toInt = ((b6g_levels (b8g_tree S))).toInt := congrArg (fun z => ((b6g_levels z)).toInt) hFS29.2.2.2.2.1
        have je29 : ((b6g_upper (b8g_tree S29))).toInt = ((b6g_upper (b8g_tree S))).toInt := congrArg (fun z => ((b6g_upper z)).toInt) hFS29.2.2.2.2.1
        refine sf_X5_putNumber (J8g_text hJS29) (fun u31 hJu31 hfu31 hr30_0 => ?_)
        intro S32 eS32
        have hGS32 : F_X8_tellFilter S S32 := by
          rw [eS32]
          exact ⟨hFS29.1, hFS29.2.1, hFS29.2.2.1, hFS29.2.2.2.1, hFS29.2.2.2.2.1, hFS29.2.2.2.2.2.1, hFS29.2.2.2.2.2.2.1, hFS29.2.2.2.2.2.2.2.1, hFS29.2.2.2.2.2.2.2.2⟩
        have hJS32 : J8 S32 := by rw [eS32]; exact (J8s_text hJS29 hJu31)
        have hFS32 : F_X8_tellFilter S S32 := hGS32
        have je31 : ((b6g_levels (b8g_tree S32))).toInt = ((b6g_levels (b8g_tree S))).toInt := congrArg (fun z => ((b6g_levels z)).toInt) hFS32.2.2.2.2.1
        have je33 : ((b6g_upper (b8g_tree S32))).toInt = ((b6g_upper (b8g_tree S))).toInt := congrArg (fun z => ((b6g_upper z)).toInt) hFS32.2.2.2.2.1
        refine sf_X5_put (J8g_text hJS32) (fun u34 hJu34 hfu34 hr33_0 => ?_)
        intro S35 eS35
        have hGS35 : F_X8_tellFilter S S35 := by
          rw [eS35]
          exact ⟨hFS32.1, hFS32.2.1, hFS32.2.2.1, hFS32.2.2.2.1, hFS32.2.2.2.2.1, hFS32.2.2.2.2.2.1, hFS32.2.2.2.2.2.2.1, hFS32.2.2.2.2.2.2.2.1, hFS32.2.2.2.2.2.2.2.2⟩
        have hJS35 : J8 S35 := by rw [eS35]; exact (J8s_text hJS32 hJu34)
        have hFS35 : F_X8_tellFilter S S35 := hGS35
        have je35 : ((b6g_levels (b8g_tree S35))).toInt = ((b6g_levels (b8g_tree S))).toInt := congrArg (fun z => ((b6g_levels z)).toInt) hFS35.2.2.2.2.1
        have je37 : ((b6g_upper (b8g_tree S35))).toInt = ((b6g_upper (b8g_tree S))).toInt := congrArg (fun z => ((b6g_upper z)).toInt) hFS35.2.2.2.2.1
        refine sf_X6_branches (J8g_tree hJS35) (fun r36  => ?_)
        have rgr36 := pt_rg r36
        refine sf_X5_putNumber (J8g_text hJS35) (fun u39 hJu39 hfu39 hr38_0 => ?_)
        intro S40 eS40
        have hGS40 : F_X8_tellFilter S S40 := by
          rw [eS40]
          exact ⟨hFS35.1, hFS35.2.1, hFS35.2.2.1, hFS35.2.2.2.1, hFS35.2.2.2.2.1, hFS35.2.2.2.2.2.1, hFS35.2.2.2.2.2.2.1, hFS35.2.2.2.2.2.2.2.1, hFS35.2.2.2.2.2.2.2.2⟩
        have hJS40 : J8 S40 := by rw [eS40]; exact (J8s_text hJS35 hJu39)
        have hFS40 : F_X8_tellFilter S S40 := hGS40
        have je39 : ((b6g_levels (b8g_tree S40))).toInt = ((b6g_levels (b8g_tree S))).toInt := congrArg (fun z => ((b6g_levels z)).toInt) hFS40.2.2.2.2.1
        have je41 : ((b6g_upper (b8g_tree S40))).toInt = ((b6g_upper (b8g_tree S))).toInt := congrArg (fun z => ((b6g_upper z)).toInt) hFS40.2.2.2.2.1
        refine ⟨_, ?_, ?_, ?_, ?_, rfl⟩
        · (try simp (disch := first | ((try simp (disch := first | ((try simp only [pn]) <;> omega) | fail) only [pn, pq]) <;> omega) | fail) only [pn, pq]) <;> (intros; (try simp (disch := first | ((try simp (disch := first | ((try simp only [pn]) <;> omega) | fail) only [pn, pq]) <;> omega) | fail) only [pn, pq]) <;> omega)
        · exact hJS40
        · exact hFS40
        · (try simp (disch := first | ((try simp (disch := first | ((try simp only [pn]) <;> omega) | fail) only [pn, pq]) <;> omega) | fail) only [pn, pq]) <;> (intros; (try simp (disch := first | ((try simp (disch := first | ((try simp only [pn]) <;> omega) | fail) only [pn, pq]) <;> omega) | fail) only [pn, pq]) <;> omega)
    · try simp (disch := first | ((try simp (disch := first | ((try simp only [pn]) <;> omega) | fail) only [pn, pq]) <;> omega) | fail) only [pn, pq] at c7
      refine sf_X5_put (J8g_text hJSq1) (fun u42 hJu42 hfu42 hr41_0 => ?_)
      intro S43 eS43
      have hGS43 : F_X8_tellFilter S S43 := by
        rw [eS43]
        exact ⟨hFSq1.1, hFSq1.2.1, hFSq1.2.2.1, hFSq1.2.2.2.1, hFSq1.2.2.2.2.1, hFSq1.2.2.2.2.2.1, hFSq1.2.2.2.2.2.2.1, hFSq1.2.2.2.2.2.2.2.1, hFSq1.2.2.2.2.2.2.2.2⟩
      have hJS43 : J8 S43 := by rw [eS43]; exact (J8s_text hJSq1 hJu42)
      have hFS43 : F_X8_tellFilter S S43 := hGS43
      have je43 : ((b6g_levels (b8g_tree S43))).toInt = ((b6g_levels (b8g_tree S))).toInt := congrArg (fun z => ((b6g_levels z)).toInt) hFS43.2.2.2.2.1
      have je45 : ((b6g_upper (b8g_tree S43))).toInt = ((b6g_upper (b8g_tree S))).toInt := congrArg (fun z => ((b6g_upper z)).toInt) hFS43.2.2.2.2.1
      unfold wp_X8_tellFilter_26
      refine sf_X8_at (by decide) (fun r44 hr44_0 => ?_)
      have rgr44 := pt_rg r44
      try simp (disch := first | ((try simp (disch := first | ((try simp only [pn]) <;> omega) | fail) only [pn, pq]) <;> omega) | fail) only [pn, pq] at hr44_0
      refine sf_X8_at (by decide) (fun r46 hr46_0 => ?_)
      have rgr46 := pt_rg r46
      try simp (disch := first | ((try simp (disch := first | ((try simp only [pn]) <;> omega) | fail) only [pn, pq]) <;> omega) | fail) only [pn, pq] at hr46_0
      refine ⟨fun c48 => ?_, fun c48 => ?_⟩
      · try simp (disch := first | ((try simp (disch := first | ((try simp only [pn]) <;> omega) | fail) only [pn, pq]) <;> omega) | fail) only [pn, pq] at c48
        unfold wp_X8_tellFilter_74
        refine sf_X5_put (J8g_text hJS43) (fun u50 hJu50 hfu50 hr49_0 => ?_)
        intro S51 eS51
        have hGS51 : F_X8_tellFilter S S51 := by
          rw [eS51]
          exact ⟨hFS43.1, hFS43.2.1, hFS43.2.2.1, hFS43.2.2.2.1, hFS43.2.2.2.2.1, hFS43.2.2.2.2.2.1, hFS43.2.2.2.2.2.2.1, hFS43.2.2.2.2.2.2.2.1, hFS43.2.2.2.2.2.2.2.2⟩
        have hJS51 : J8 S51 := by rw [eS51]; exact (J8s_text hJS43 hJu50)
        have hFS51 : F_X8_tellFilter S S51 := hGS51
        have je47 : ((b6g_levels (b8g_tree S51))).toInt = ((b6g_levels (b8g_tree S))).toInt := congrArg (fun z => ((b6g_levels z)).toInt) hFS51.2.2.2.2.1
        have je49 : ((b6g_upper (b8g_tree S51))).toInt = ((b6g_upper (b8g_tree S))).toInt := congrArg (fun z => ((b6g_upper z)).toInt) hFS51.2.2.2.2.1
        refine sf_X5_putNumber (J8g_text hJS51) (fun u53 hJu53 hfu53 hr52_0 => ?_)
        intro S54 eS54
        have hGS54 : F_X8_tellFilter S S54 := by
          rw [eS54]
          exact ⟨hFS51.1, hFS51.2.1, hFS51.2.2.1, hFS51.2.2.2.1, hFS51.2.2.2.2.1, hFS51.2.2.2.2.2.1, hFS51.2.2.2.2.2.2.1, hFS51.2.2.2.2.2.2.2.1, hFS51.2.2.2.2.2.2.2.2⟩
        have hJS54 : J8 S54 := by rw [eS54]; exact (J8s_text hJS51 hJu53)
        have hFS54 : F_X8_tellFilter S S54 := hGS54
        have je51 : ((b6g_levels (b8g_tree S54))).toInt = ((b6g_levels (b8g_tree S))).toInt := congrArg (fun z => ((b6g_levels z)).toInt) hFS54.2.2.2.2.1
        have je53 : ((b6g_upper (b8g_tree S54))).toInt = ((b6g_upper (b8g_tree S))).toInt := congrArg (fun z => ((b6g_upper z)).toInt) hFS54.2.2.2.2.1
        refine sf_X5_put (J8g_text hJS54) (fun u56 hJu56 hfu56 hr55_0 => ?_)
        intro S57 eS57
        have hGS57 : F_X8_tellFilter S S57 := by
          rw [eS57]
          exact ⟨hFS54.1, hFS54.2.1, hFS54.2.2.1, hFS54.2.2.2.1, hFS54.2.2.2.2.1, hFS54.2.2.2.2.2.1, hFS54.2.2.2.2.2.2.1, hFS54.2.2.2.2.2.2.2.1, hFS54.2.2.2.2.2.2.2.2⟩
        have hJS57 : J8 S57 := by rw [eS57]; exact (J8s_text hJS54 hJu56)
        have hFS57 : F_X8_tellFilter S S57 := hGS57
        have je55 : ((b6g_levels (b8g_tree S57))).toInt = ((b6g_levels (b8g_tree S))).toInt := congrArg (fun z => ((b6g_levels z)).toInt) hFS57.2.2.2.2.1
        have je57 : ((b6g_upper (b8g_tree S57))).toInt = ((b6g_upper (b8g_tree S))).toInt := congrArg (fun z => ((b6g_upper z)).toInt) hFS57.2.2.2.2.1
        refine sf_X6_branches (J8g_tree hJS57) (fun r58  => ?_)
        have rgr58 := pt_rg r58
        refine sf_X5_putNumber (J8g_text hJS57) (fun u61 hJu61 hfu61 hr60_0 => ?_)
        intro S62 eS62
        have hGS62 : F_X8_tellFilter S S62 := by
          rw [eS62]
          exact ⟨hFS57.1, hFS57.2.1, hFS57.2.2.1, hFS57.2.2.2.1, hFS57.2.2.2.2.1, hFS57.2.2.2.2.2.1, hFS57.2.2.2.2.2.2.1, hFS57.2.2.2.2.2.2.2.1, hFS57.2.2.2.2.2.2.2.2⟩
        have hJS62 : J8 S62 := by rw [eS62]; exact (J8s_text hJS57 hJu61)
        have hFS62 : F_X8_tellFilter S S62 := hGS62
        have je59 : ((b6g_levels (b8g_tree S62))).toInt = ((b6g_levels (b8g_tree S))).toInt := congrArg (fun z => ((b6g_levels z)).toInt) hFS62.2.2.2.2.1
        have je61 : ((b6g_upper (b8g_tree S62))).toInt = ((b6g_upper (b8g_tree S))).toInt := congrArg (fun z => ((b6g_upper z)).toInt) hFS62.2.2.2.2.1
        refine ⟨_, ?_, ?_, ?_, ?_, rfl⟩
        · (try simp (disch := first | ((try simp (disch := first | ((try simp only [pn]) <;> omega) | fail) only [pn, pq]) <;> omega) | fail) only [pn, pq]) <;> (intros; (try simp (disch := first | ((try simp (disch := first | ((try simp only [pn]) <;> omega) | fail) only [pn, pq]) <;> omega) | fail) only [pn, pq]) <;> omega)
        · exact hJS62
        · exact hFS62
        · (try simp (disch := first | ((try simp (disch := first | ((try simp only [pn]) <;> omega) | fail) only [pn, pq]) <;> omega) | fail) only [pn, pq]) <;> (intros; (try simp (disch := first | ((try simp (disch := first | ((try simp only [pn]) <;> omega) | fail) only [pn, pq]) <;> omega) | fail) only [pn, pq]) <;> omega)
      · try simp (disch := first | ((try simp (disch := first | ((try simp only [pn]) <;> omega) | fail) only [pn, pq]) <;> omega) | fail) only [pn, pq] at c48
        unfold wp_X8_tellFilter_74
        refine sf_X5_put (J8g_text hJS43) (fun u64 hJu64 hfu64 hr63_0 => ?_)
        intro S65 eS65
        have hGS65 : F_X8_tellFilter S S65 := by
          rw [eS65]
          exact ⟨hFS43.1, hFS43.2.1, hFS43.2.2.1, hFS43.2.2.2.1, hFS43.2.2.2.2.1, hFS43.2.2.2.2.2.1, hFS43.2.2.2.2.2.2.1, hFS43.2.2.2.2.2.2.2.1, hFS43.2.2.2.2.2.2.2.2⟩
        have hJS65 : J8 S65 := by rw [eS65]; exact (J8s_text hJS43 hJu64)
        have hFS65 : F_X8_tellFilter S S65 := hGS65
        have je63 : ((b6g_levels (b8g_tree S65))).toInt = ((b6g_levels (b8g_tree S))).toInt := congrArg (fun z => ((b6g_levels z)).toInt) hFS65.2.2.2.2.1
        have je65 : ((b6g_upper (b8g_tree S65))).toInt = ((b6g_upper (b8g_tree S))).toInt := congrArg (fun z => ((b6g_upper z)).toInt) hFS65.2.2.2.2.1
        refine sf_X5_putNumber (J8g_text hJS65) (fun u67 hJu67 hfu67 hr66_0 => ?_)
        intro S68 eS68
        have hGS68 : F_X8_tellFilter S S68 := by
          rw [eS68]
          exact ⟨hFS65.1, hFS65.2.1, hFS65.2.2.1, hFS65.2.2.2.1, hFS65.2.2.2.2.1, hFS65.2.2.2.2.2.1, hFS65.2.2.2.2.2.2.1, hFS65.2.2.2.2.2.2.2.1, hFS65.2.2.2.2.2.2.2.2⟩
        have hJS68 : J8 S68 := by rw [eS68]; exact (J8s_text hJS65 hJu67)
        have hFS68 : F_X8_tellFilter S S68 := hGS68
        have je67 : ((b6g_levels (b8g_tree S68))).toInt = ((b6g_levels (b8g_tree S))).toInt := congrArg (fun z => ((b6g_levels z)).toInt) hFS68.2.2.2.2.1
        have je69 : ((b6g_upper (b8g_tree S68))).toInt = ((b6g_upper (b8g_tree S))).toInt := congrArg (fun z => ((b6g_upper z)).toInt) hFS68.2.2.2.2.1
        refine sf_X5_put (J8g_text hJS68) (fun u70 hJu70 hfu70 hr69_0 => ?_)
        intro S71 eS71
        have hGS71 : F_X8_tellFilter S S71 := by
          rw [eS71]
          exact ⟨hFS68.1, hFS68.2.1, hFS68.2.2.1, hFS68.2.2.2.1, hFS68.2.2.2.2.1, hFS68.2.2.2.2.2.1, hFS68.2.2.2.2.2.2.1, hFS68.2.2.2.2.2.2.2.1, hFS68.2.2.2.2.2.2.2.2⟩
        have hJS71 : J8 S71 := by rw [eS71]; exact (J8s_text hJS68 hJu70)
        have hFS71 : F_X8_tellFilter S S71 := hGS71
        have je71 : ((b6g_levels (b8g_tree S71))).toInt = ((b6g_levels (b8g_tree S))).toInt := congrArg (fun z => ((b6g_levels z)).toInt) hFS71.2.2.2.2.1
        have je73 : ((b6g_upper (b8g_tree S71))).toInt = ((b6g_upper (b8g_tree S))).toInt := congrArg (fun z => ((b6g_upper z)).toInt) hFS71.2.2.2.2.1
        refine sf_X6_branches (J8g_tree hJS71) (fun r72  => ?_)
        have rgr72 := pt_rg r72
        refine sf_X5_putNumber (J8g_text hJS71) (fun u75 hJu75 hfu75 hr74_0 => ?_)
        intro S76 eS76
        have hGS76 : F_X8_tellFilter S S76 := by
          rw [eS76]
          exact ⟨hFS71.1, hFS71.2.1, hFS71.2.2.1, hFS71.2.2.2.1, hFS71.2.2.2.2.1, hFS71.2.2.2.2.2.1, hFS71.2.2.2.2.2.2.1, hFS71.2.2.2.2.2.2.2.1, hFS71.2.2.2.2.2.2.2.2⟩
        have hJS76 : J8 S76 := by rw [eS76]; exact (J8s_text hJS71 hJu75)
        have hFS76 : F_X8_tellFilter S S76 := hGS76
        have je75 : ((b6g_levels (b8g_tree S76))).toInt = ((b6g_levels (b8g_tree S))).toInt := congrArg (fun z => ((b6g_levels z)).toInt) hFS76.2.2.2.2.1
        have je77 : ((b6g_upper (b8g_tree S76))).toInt = ((b6g_upper (b8g_tree S))).toInt := congrArg (fun z => ((b6g_upper z)).toInt) hFS76.2.2.2.2.1
        refine ⟨_, ?_, ?_, ?_, ?_, rfl⟩
        · (try simp (disch := first | ((try simp (disch := first | ((try simp only [pn]) <;> omega) | fail) only [pn, pq]) <;> omega) | fail) only [pn, pq]) <;> (intros; (try simp (disch := first | ((try simp (disch := first | ((try simp only [pn]) <;> omega) | fail) only [pn, pq]) <;> omega) | fail) only [pn, pq]) <;> omega)
        · exact hJS76
        · exact hFS76
        · (try simp (disch := first | ((try simp (disch := first | ((try simp only [pn]) <;> omega) | fail) only [pn, pq]) <;> omega) | fail) only [pn, pq]) <;> (intros; (try simp (disch := first | ((try simp (disch := first | ((try simp only [pn]) <;> omega) | fail) only [pn, pq]) <;> omega) | fail) only [pn, pq]) <;> omega)
theorem sf_X8_tellFilter {S : bT8} (hJ : J8 S) {Q : (bT8) → Prop} (hq : ∀ u : bT8, (J8 u) → F_X8_tellFilter S u → (LVO (b8g_leaves S) → TRX (b8g_tree S) (b8g_leaves S) (b3g_values (b2g_built (b8g_now S)) 2) (b3g_values (b2g_built (b8g_now S)) 3) → ∃ k lv : Nat, UPX (b8g_leaves S) (b3g_values (b2g_built (b8g_now S)) 2) (b3g_values (b2g_built (b8g_now S)) 3) k lv ∧ SAY (b8g_text S) (b8g_text u) (FTX (tn (b8g_leaves S)) (tC (b8g_leaves S)) (tL (b8g_leaves S)) (tP (b8g_leaves S)) k lv ++ [46])) → Q u) : wp_X8_tellFilter S Q := by
  by_cases hyp : LVO (b8g_leaves S) ∧ TRX (b8g_tree S) (b8g_leaves S) (b3g_values (b2g_built (b8g_now S)) 2) (b3g_values (b2g_built (b8g_now S)) 3)
  case neg => exact sj_X8_tellFilter hJ (fun u j f => hq u j f (fun a b => absurd ⟨a, b⟩ hyp))
  case pos =>
    obtain ⟨o, k, lv, t, _, hlv, h8, hu, hk, hU, hun, his⟩ := hyp
    have G := tG o (J8g_leaves hJ)
    have lev : LEVS (tn (b8g_leaves S)) (tC (b8g_leaves S)) (tP (b8g_leaves S)) (lv : Int) 8 := by rw [← hlv]; exact t.2.2.2.1
    have up : UPX (b8g_leaves S) (b3g_values (b2g_built (b8g_now S)) 2) (b3g_values (b2g_built (b8g_now S)) 3) k lv := ⟨lev, h8, hk, hU⟩
    have hFS : F_X8_tellFilter S S := ⟨rfl, rfl, rfl, rfl, rfl, rfl, rfl, rfl, rfl⟩
    have n5 := NB_le G (l := 7) (i := 64) (by omega) (by omega)
    have nb5 : NB (tn (b8g_leaves S)) (tC (b8g_leaves S)) (tP (b8g_leaves S)) (64 * 7 + 64) = NB (tn (b8g_leaves S)) (tC (b8g_leaves S)) (tP (b8g_leaves S)) 512 := rfl
    unfold wp_X8_tellFilter wp_X8_tellFilter_2
    refine ⟨fun n x1 V => ∃ i : Nat, x1.toInt = (i : Int) ∧ i ≤ lv ∧ J8 V ∧ F_X8_tellFilter S V ∧ SAY (b8g_text S) (b8g_text V) (FTX (tn (b8g_leaves S)) (tC (b8g_leaves S)) (tL (b8g_leaves S)) (tP (b8g_leaves S)) k i) ∧ n = lv - i, ⟨_, 0, rfl, by omega, hJ, hFS, SAY_nil _, rfl⟩, ?_⟩
    rintro n x1 V ⟨i, ei, il, jV, fV, sy, rfl⟩
    suffices H : ∀ B : Int32 → bT8 → Prop, (∀ (x' : Int32) (W : bT8), i < lv → x'.toInt = ((i + 1 : Nat) : Int) → J8 W → F_X8_tellFilter S W → SAY (b8g_text S) (b8g_text W) (FTX (tn (b8g_leaves S)) (tC (b8g_leaves S)) (tL (b8g_leaves S)) (tP (b8g_leaves S)) k (i + 1)) → B x' W) → wp_X8_tellFilter_2b V x1 Q B from H _ (fun x' W a b c d e => ⟨lv - (i + 1), by omega, i + 1, b, by omega, c, d, e, rfl⟩)
    intro B hB
    have eT : b8g_tree V = (b8g_tree S) := fV.2.2.2.2.1
    have mid : i < lv → ∀ W : bT8, J8 W → F_X8_tellFilter S W → SAY (b8g_text S) (b8g_text W) (FTX (tn (b8g_leaves S)) (tC (b8g_leaves S)) (tL (b8g_leaves S)) (tP (b8g_leaves S)) k i ++ (if i = 0 then [] else [44])) → wp_X8_tellFilter_26 W x1 Q B := by
      intro ilt W jW fW sW
      have eW : b8g_tree W = (b8g_tree S) := fW.2.2.2.2.1
      have e11 : (x1 + 1).toInt = ((i + 1 : Nat) : Int) := by rw [pt_add (by rw [pl_1]; omega) (by rw [pl_1]; omega), pl_1, ei]; omega
      have l1 := t.2.2.1 i (by omega)
      have l2 := t.2.2.1 (i + 1) (by omega)
      have m1 := NB_mono (n := tn (b8g_leaves S)) (C := tC (b8g_leaves S)) (P := tP (b8g_leaves S)) (show 64 * i ≤ 64 * (i + 1) by omega)
      have m2 := NB_mono (n := tn (b8g_leaves S)) (C := tC (b8g_leaves S)) (P := tP (b8g_leaves S)) (show 64 * (i + 1) ≤ 512 by omega)
      have m0 := NB_nn (n := tn (b8g_leaves S)) (C := tC (b8g_leaves S)) (P := tP (b8g_leaves S)) (64 * i)
      obtain ⟨x, hx⟩ : ∃ x : Nat, (x : Int) = NB (tn (b8g_leaves S)) (tC (b8g_leaves S)) (tP (b8g_leaves S)) (64 * i) := ⟨(NB (tn (b8g_leaves S)) (tC (b8g_leaves S)) (tP (b8g_leaves S)) (64 * i)).toNat, by omega⟩
      obtain ⟨y, hy⟩ : ∃ y : Nat, (y : Int) = NB (tn (b8g_leaves S)) (tC (b8g_leaves S)) (tP (b8g_leaves S)) (64 * (i + 1)) := ⟨(NB (tn (b8g_leaves S)) (tC (b8g_leaves S)) (tP (b8g_leaves S)) (64 * (i + 1))).toNat, by omega⟩
      have s1 := TR6_es G t (l := i) (by omega) hx
      have s2 := TR6_es G t (l := i + 1) (by omega) hy
      have bm := BB_mono (n := tn (b8g_leaves S)) (C := tC (b8g_leaves S)) (L := tL (b8g_leaves S)) (P := tP (b8g_leaves S)) (show 64 * i ≤ 64 * (i + 1) by omega)
      have b1 := BB_le G (w := 64 * i) (by omega)
      have b2 := BB_le G (w := 64 * (i + 1)) (by omega)
      unfold wp_X8_tellFilter_26
      rw [eW]
      refine fx_atN (by decide) ei (by omega) (fx_atN (by decide) e11 (by omega) ?_)
      have go : ∀ ch : Int32, 0 ≤ ch.toInt → ch.toInt < 65536 → ch.toInt = (if i < k then 100 else 115) → wp_X8_tellFilter_74 W x1 (b6g_levelStarts (b8g_tree S) i) (b6g_levelStarts (b8g_tree S) (i + 1)) ch Q B := by
        intro ch c0 c1 cv
        unfold wp_X8_tellFilter_74
        refine sf_X5_put (J8g_text jW) (fun u2 j2 _ s2' S3 e3 => ?_)
        have t3 : b8g_text S3 = u2 := by rw [e3]
        have jS3 : J8 S3 := by rw [e3]; exact J8s_text jW j2
        have fS3 : F_X8_tellFilter S S3 := by rw [e3]; exact fW
        rw [t3]
        have r2 := s2' c0 c1
        rw [cv] at r2
        refine sf_X5_putNumber j2 (fun u5 j5 _ s5 S6 e6 => ?_)
        have t6 : b8g_text S6 = u5 := by rw [e6]
        have jS6 : J8 S6 := by rw [e6]; exact J8s_text jS3 j5
        have fS6 : F_X8_tellFilter S S6 := by rw [e6]; exact fS3
        rw [t6]
        have d5 : (b6g_levelStarts (b8g_tree S) (i + 1) - b6g_levelStarts (b8g_tree S) i).toInt = NB (tn (b8g_leaves S)) (tC (b8g_leaves S)) (tP (b8g_leaves S)) (64 * (i + 1)) - NB (tn (b8g_leaves S)) (tC (b8g_leaves S)) (tP (b8g_leaves S)) (64 * i) := by rw [pt_sub (by omega) (by omega), l1, l2]
        have r5 := s5 (by omega) (by omega)
        rw [d5] at r5
        refine sf_X5_put j5 (fun u8 j8 _ s8 S9 e9 => ?_)
        have t9 : b8g_text S9 = u8 := by rw [e9]
        have jS9 : J8 S9 := by rw [e9]; exact J8s_text jS6 j8
        have fS9 : F_X8_tellFilter S S9 := by rw [e9]; exact fS6
        have r8 : SAY u5 u8 [58] := s8 (by decide) (by decide)
        have eT9 : b8g_tree S9 = (b8g_tree S) := fS9.2.2.2.2.1
        rw [eT9, t9]
        refine fx6_branches G t (x := x) (y := y) (a := 64 * i) (b := 64 * (i + 1)) (by omega) (by omega) (by omega) (by omega) (by omega) (by omega) s1 s2 (fun r10 hr => ?_)
        refine sf_X5_putNumber j8 (fun u13 j13 _ s13 S14 e14 => ?_)
        have t14 : b8g_text S14 = u13 := by rw [e14]
        have r13 := s13 (by omega) (by omega)
        rw [hr] at r13
        refine hB _ S14 ilt e11 (by rw [e14]; exact J8s_text jS9 j13) (by rw [e14]; exact fS9) ?_
        rw [t14]
        have c := SAY_tr sW (SAY_tr r2 (SAY_tr r5 (SAY_tr r8 r13)))
        rw [List.append_assoc] at c
        exact c
      refine ⟨fun c => go 115 (by decide) (by decide) ?_, fun c => go 100 (by decide) (by decide) ?_⟩
      · simp only [pn] at c
        rw [if_neg (show ¬ i < k by omega)]
        rfl
      · simp only [pn] at c
        rw [if_pos (show i < k by omega)]
        rfl
    unfold wp_X8_tellFilter_2b
    rw [eT]
    refine ⟨fun c => ?_, fun c => ⟨fun d => mid ?_ V jV fV ?_, fun d => ?_⟩⟩
    · simp only [pn] at c
      have ilv : i = lv := by omega
      refine sf_X5_put (J8g_text jV) (fun u20 j20 _ s20 S21 e21 => hq S21 ?_ ?_ (fun _ _ => ⟨k, lv, up, ?_⟩))
      · rw [e21]
        exact J8s_text jV j20
      · rw [e21]
        exact fV
      · have t21 : b8g_text S21 = u20 := by rw [e21]
        have r20 : SAY (b8g_text V) u20 [46] := s20 (by decide) (by decide)
        rw [t21, ← ilv]
        exact SAY_tr sy r20
    · simp only [pn] at c
      omega
    · simp only [pn] at d
      rw [if_pos (show i = 0 by omega), List.append_nil]
      exact sy
    · simp only [pn] at c d
      refine sf_X5_put (J8g_text jV) (fun u23 j23 _ s23 S24 e24 => ?_)
      have t24 : b8g_text S24 = u23 := by rw [e24]
      have r23 : SAY (b8g_text V) u23 [44] := s23 (by decide) (by decide)
      refine mid (by omega) S24 (by rw [e24]; exact J8s_text jV j23) (by rw [e24]; exact fV) ?_
      rw [t24, if_neg (show ¬ i = 0 by omega)]
      exact SAY_tr sy r23
def F_X8_tellLeaf (S u : bT8) : Prop := (b8g_now u) = (b8g_now S) ∧ (b8g_kept u) = (b8g_kept S) ∧ (b8g_isKept u) = (b8g_isKept S) ∧ (b8g_leaves u) = (b8g_leaves S) ∧ (b8g_tree u) = (b8g_tree S) ∧ (b8g_tuning u) = (b8g_tuning S) ∧ (b8g_trial u) = (b8g_trial S) ∧ (b8g_tape u) = (b8g_tape S) ∧ (b8g_chosenRow u) = (b8g_chosenRow S)
set_option maxRecDepth 20000 in
set_option maxHeartbeats 8000000 in
theorem sj_X8_tellLeaf {S : bT8} (hJ : J8 S) {a1 : Int32} {Q : (bT8) → Prop} (hq : ∀ u : bT8, (J8 u) → F_X8_tellLeaf S u → Q u) : wp_X8_tellLeaf S a1 Q := by
  unfold wp_X8_tellLeaf
  have hFS : F_X8_tellLeaf S S := ⟨rfl, rfl, rfl, rfl, rfl, rfl, rfl, rfl, rfl⟩
  have rga1 := pt_rg a1
  refine sf_X0_bytesAt (J1g_owners (J8g_leaves hJ)) (fun r1  => ?_)
  refine ⟨fun n x1q3 x2q3 x4q3 Sq3 => (J8 Sq3) ∧ (F_X8_tellLeaf S Sq3) ∧ (x1q3 = a1) ∧ (x2q3 = r1) ∧ (0 ≤ (x4q3).toInt) ∧ n = ((atf 64 (b1g_lengths (b8g_leaves S)) (x1q3)).toInt - (x4q3).toInt).toNat, ⟨_, hJ, hFS, rfl, rfl, (by (try simp (disch := first | ((try simp (disch := first | ((try simp only [pn]) <;> omega) | fail) only [pn, pq]) <;> omega) | fail) only [pn, pq]) <;> (intros; (try simp (disch := first | ((try simp (disch := first | ((try simp only [pn]) <;> omega) | fail) only [pn, pq]) <;> omega) | fail) only [pn, pq]) <;> omega)), rfl⟩, ?_⟩
  rintro n4 x1q3 x2q3 x4q3 Sq3 ⟨hJSq3, hFSq3, hkq3_0, hkq3_1, hiq3_0, hn4⟩
  subst hkq3_0
  subst hkq3_1
  have rgx1q3 := pt_rg x1q3
  have rgx4q3 := pt_rg x4q3
  unfold wp_X8_tellLeaf_15b
  have je2 : ((b1g_hashBits (b8g_leaves Sq3))).toInt = ((b1g_hashBits (b8g_leaves S))).toInt := congrArg (fun z => ((b1g_hashBits z)).toInt) hFSq3.2.2.2.1
  have je4 : ((b1g_realBits (b8g_leaves Sq3))).toInt = ((b1g_realBits (b8g_leaves S))).toInt := congrArg (fun z => ((b1g_realBits z)).toInt) hFSq3.2.2.2.1
  have qSq3_leaves : b8g_leaves Sq3 = b8g_leaves S := hFSq3.2.2.2.1
  refine sf_X1_lengthAt (J8g_leaves hJSq3) (fun r5 hr5_0 => ?_)
  have rgr5 := pt_rg r5
  try simp (disch := first | ((try simp (disch := first | ((try simp only [pn]) <;> omega) | fail) only [pn, pq]) <;> omega) | fail) only [pn, pq, qSq3_leaves] at hr5_0
  refine ⟨fun c7 => ?_, fun c7 => ?_⟩
  · try simp (disch := first | ((try simp (disch := first | ((try simp only [pn]) <;> omega) | fail) only [pn, pq]) <;> omega) | fail) only [pn, pq, qSq3_leaves] at c7
    refine sf_X1_isEnded (J8g_leaves hJSq3) (fun r8 hzr8  => ?_)
    refine ⟨fun c10 => ?_, fun c10 => ?_⟩
    · try simp (disch := first | ((try simp (disch := first | ((try simp only [pn]) <;> omega) | fail) only [pn, pq]) <;> omega) | fail) only [pn, pq, qSq3_leaves] at c10
      unfold wp_X8_tellLeaf_67
      refine ⟨fun c11 => ?_, fun c11 => ?_⟩
      · try simp (disch := first | ((try simp (disch := first | ((try simp only [pn]) <;> omega) | fail) only [pn, pq]) <;> omega) | fail) only [pn, pq, qSq3_leaves] at c11
        unfold wp_X8_tellLeaf_101
        refine ⟨fun c12 => ?_, fun c12 => ?_⟩
        · try simp (disch := first | ((try simp (disch := first | ((try simp only [pn]) <;> omega) | fail) only [pn, pq]) <;> omega) | fail) only [pn, pq, qSq3_leaves] at c12
          exact hq _ hJSq3 hFSq3 
        · try simp (disch := first | ((try simp (disch := first | ((try simp only [pn]) <;> omega) | fail) only [pn, pq]) <;> omega) | fail) only [pn, pq, qSq3_leaves] at c12
          refine sf_X5_put (J8g_text hJSq3) (fun u14 hJu14 hfu14 hr13_0 => ?_)
          intro S15 eS15
          have hGS15 : F_X8_tellLeaf S S15 := by
            rw [eS15]
            exact ⟨hFSq3.1, hFSq3.2.1, hFSq3.2.2.1, hFSq3.2.2.2.1, hFSq3.2.2.2.2.1, hFSq3.2.2.2.2.2.1, hFSq3.2.2.2.2.2.2.1, hFSq3.2.2.2.2.2.2.2.1, hFSq3.2.2.2.2.2.2.2.2⟩
          have hJS15 : J8 S15 := by rw [eS15]; exact (J8s_text hJSq3 hJu14)
          have hFS15 : F_X8_tellLeaf S S15 := hGS15
          have je6 : ((b1g_hashBits (b8g_leaves S15))).toInt = ((b1g_hashBits (b8g_leaves S))).toInt := congrArg (fun z => ((b1g_hashBits z)).toInt) hFS15.2.2.2.1
          have je8 : ((b1g_realBits (b8g_leaves S15))).toInt = ((b1g_realBits (b8g_leaves S))).toInt := congrArg (fun z => ((b1g_realBits z)).toInt) hFS15.2.2.2.1
          have qS15_leaves : b8g_leaves S15 = b8g_leaves S := hFS15.2.2.2.1
          refine ⟨fun n x1q16 x4q16 Sq16 => (J8 Sq16) ∧ (F_X8_tellLeaf S Sq16) ∧ (x1q16 = x1q3) ∧ n = ((x4q16).toInt + 1).toNat, ⟨_, hJS15, hFS15, rfl, rfl⟩, ?_⟩
          rintro n17 x1q16 x4q16 Sq16 ⟨hJSq16, hFSq16, hkq16_0, hn17⟩
          subst hkq16_0
          have rgx1q16 := pt_rg x1q16
          have rgx4q16 := pt_rg x4q16
          unfold wp_X8_tellLeaf_131b
          have je10 : ((b1g_hashBits (b8g_leaves Sq16))).toInt = ((b1g_hashBits (b8g_leaves S))).toInt := congrArg (fun z => ((b1g_hashBits z)).toInt) hFSq16.2.2.2.1
          have je12 : ((b1g_realBits (b8g_leaves Sq16))).toInt = ((b1g_realBits (b8g_leaves S))).toInt := congrArg (fun z => ((b1g_realBits z)).toInt) hFSq16.2.2.2.1
          have qSq16_leaves : b8g_leaves Sq16 = b8g_leaves S := hFSq16.2.2.2.1
          refine ⟨fun c18 => ?_, fun c18 => ?_⟩
          · try simp (disch := first | ((try simp (disch := first | ((try simp only [pn]) <;> omega) | fail) only [pn, pq]) <;> omega) | fail) only [pn, pq, qSq3_leaves, qS15_leaves, qSq16_leaves] at c18
            exact hq _ hJSq16 hFSq16 
          · try simp (disch := first | ((try simp (disch := first | ((try simp only [pn]) <;> omega) | fail) only [pn, pq]) <;> omega) | fail) only [pn, pq, qSq3_leaves, qS15_leaves, qSq16_leaves] at c18
            refine sf_X1_nextAt (J8g_leaves hJSq16) (fun r19  => ?_)
            have rgr19 := pt_rg r19
            refine ⟨fun c21 => ?_, fun c21 => ?_⟩
            · try simp (disch := first | ((try simp (disch := first | ((try simp only [pn]) <;> omega) | fail) only [pn, pq]) <;> omega) | fail) only [pn, pq, qSq3_leaves, qS15_leaves, qSq16_leaves] at c21
              unfold wp_X8_tellLeaf_164
              refine sf_X5_put (J8g_text hJSq16) (fun u23 hJu23 hfu23 hr22_0 => ?_)
              intro S24 eS24
              have hGS24 : F_X8_tellLeaf S S24 := by
                rw [eS24]
                exact ⟨hFSq16.1, hFSq16.2.1, hFSq16.2.2.1, hFSq16.2.2.2.1, hFSq16.2.2.2.2.1, hFSq16.2.2.2.2.2.1, hFSq16.2.2.2.2.2.2.1, hFSq16.2.2.2.2.2.2.2.1, hFSq16.2.2.2.2.2.2.2.2⟩
              have hJS24 : J8 S24 := by rw [eS24]; exact (J8s_text hJSq16 hJu23)
              have hFS24 : F_X8_tellLeaf S S24 := hGS24
              have je14 : ((b1g_hashBits (b8g_leaves S24))).toInt = ((b1g_hashBits (b8g_leaves S))).toInt := congrArg (fun z => ((b1g_hashBits z)).toInt) hFS24.2.2.2.1
              have je16 : ((b1g_realBits (b8g_leaves S24))).toInt = ((b1g_realBits (b8g_leaves S))).toInt := congrArg (fun z => ((b1g_realBits z)).toInt) hFS24.2.2.2.1
              have qS24_leaves : b8g_leaves S24 = b8g_leaves S := hFS24.2.2.2.1
              refine ⟨_, ?_, ?_, ?_, ?_, rfl⟩
              · (try simp (disch := first | ((try simp (disch := first | ((try simp only [pn]) <;> omega) | fail) only [pn, pq]) <;> omega) | fail) only [pn, pq, qSq3_leaves, qS15_leaves, qSq16_leaves, qS24_leaves]) <;> (intros; (try simp (disch := first | ((try simp (disch := first | ((try simp only [pn]) <;> omega) | fail) only [pn, pq]) <;> omega) | fail) only [pn, pq, qSq3_leaves, qS15_leaves, qSq16_leaves, qS24_leaves]) <;> omega)
              · exact hJS24
              · exact hFS24
              · first | rfl | assumption
            · try simp (disch := first | ((try simp (disch := first | ((try simp only [pn]) <;> omega) | fail) only [pn, pq]) <;> omega) | fail) only [pn, pq, qSq3_leaves, qS15_leaves, qSq16_leaves] at c21
              unfold wp_X8_tellLeaf_164
              refine sf_X5_put (J8g_text hJSq16) (fun u26 hJu26 hfu26 hr25_0 => ?_)
              intro S27 eS27
              have hGS27 : F_X8_tellLeaf S S27 := by
                rw [eS27]
                exact ⟨hFSq16.1, hFSq16.2.1, hFSq16.2.2.1, hFSq16.2.2.2.1, hFSq16.2.2.2.2.1, hFSq16.2.2.2.2.2.1, hFSq16.2.2.2.2.2.2.1, hFSq16.2.2.2.2.2.2.2.1, hFSq16.2.2.2.2.2.2.2.2⟩
              have hJS27 : J8 S27 := by rw [eS27]; exact (J8s_text hJSq16 hJu26)
              have hFS27 : F_X8_tellLeaf S S27 := hGS27
              have je18 : ((b1g_hashBits (b8g_leaves S27))).toInt = ((b1g_hashBits (b8g_leaves S))).toInt := congrArg (fun z => ((b1g_hashBits z)).toInt) hFS27.2.2.2.1
              have je20 : ((b1g_realBits (b8g_leaves S27))).toInt = ((b1g_realBits (b8g_leaves S))).toInt := congrArg (fun z => ((b1g_realBits z)).toInt) hFS27.2.2.2.1
              have qS27_leaves : b8g_leaves S27 = b8g_leaves S := hFS27.2.2.2.1
              refine ⟨_, ?_, ?_, ?_, ?_, rfl⟩
              · (try simp (disch := first | ((try simp (disch := first | ((try simp only [pn]) <;> omega) | fail) only [pn, pq]) <;> omega) | fail) only [pn, pq, qSq3_leaves, qS15_leaves, qSq16_leaves, qS27_leaves]) <;> (intros; (try simp (disch := first | ((try simp (disch := first | ((try simp only [pn]) <;> omega) | fail) only [pn, pq]) <;> omega) | fail) only [pn, pq, qSq3_leaves, qS15_leaves, qSq16_leaves, qS27_leaves]) <;> omega)
              · exact hJS27
              · exact hFS27
              · first | rfl | assumption
      · try simp (disch := first | ((try simp (disch := first | ((try simp only [pn]) <;> omega) | fail) only [pn, pq]) <;> omega) | fail) only [pn, pq, qSq3_leaves] at c11
        refine sf_X5_put (J8g_text hJSq3) (fun u29 hJu29 hfu29 hr28_0 => ?_)
        intro S30 eS30
        have hGS30 : F_X8_tellLeaf S S30 := by
          rw [eS30]
          exact ⟨hFSq3.1, hFSq3.2.1, hFSq3.2.2.1, hFSq3.2.2.2.1, hFSq3.2.2.2.2.1, hFSq3.2.2.2.2.2.1, hFSq3.2.2.2.2.2.2.1, hFSq3.2.2.2.2.2.2.2.1, hFSq3.2.2.2.2.2.2.2.2⟩
        have hJS30 : J8 S30 := by rw [eS30]; exact (J8s_text hJSq3 hJu29)
        have hFS30 : F_X8_tellLeaf S S30 := hGS30
        have je22 : ((b1g_hashBits (b8g_leaves S30))).toInt = ((b1g_hashBits (b8g_leaves S))).toInt := congrArg (fun z => ((b1g_hashBits z)).toInt) hFS30.2.2.2.1
        have je24 : ((b1g_realBits (b8g_leaves S30))).toInt = ((b1g_realBits (b8g_leaves S))).toInt := congrArg (fun z => ((b1g_realBits z)).toInt) hFS30.2.2.2.1
        have qS30_leaves : b8g_leaves S30 = b8g_leaves S := hFS30.2.2.2.1
        refine sf_X1_hashAt (J8g_leaves hJS30) (fun r31  => ?_)
        have rgr31 := pt_rg r31
        refine sf_X5_putNumber (J8g_text hJS30) (fun u34 hJu34 hfu34 hr33_0 => ?_)
        intro S35 eS35
        have hGS35 : F_X8_tellLeaf S S35 := by
          rw [eS35]
          exact ⟨hFS30.1, hFS30.2.1, hFS30.2.2.1, hFS30.2.2.2.1, hFS30.2.2.2.2.1, hFS30.2.2.2.2.2.1, hFS30.2.2.2.2.2.2.1, hFS30.2.2.2.2.2.2.2.1, hFS30.2.2.2.2.2.2.2.2⟩
        have hJS35 : J8 S35 := by rw [eS35]; exact (J8s_text hJS30 hJu34)
        have hFS35 : F_X8_tellLeaf S S35 := hGS35
        have je26 : ((b1g_hashBits (b8g_leaves S35))).toInt = ((b1g_hashBits (b8g_leaves S))).toInt := congrArg (fun z => ((b1g_hashBits z)).toInt) hFS35.2.2.2.1
        have je28 : ((b1g_realBits (b8g_leaves S35))).toInt = ((b1g_realBits (b8g_leaves S))).toInt := congrArg (fun z => ((b1g_realBits z)).toInt) hFS35.2.2.2.1
        have qS35_leaves : b8g_leaves S35 = b8g_leaves S := hFS35.2.2.2.1
        unfold wp_X8_tellLeaf_101
        refine ⟨fun c36 => ?_, fun c36 => ?_⟩
        · try simp (disch := first | ((try simp (disch := first | ((try simp only [pn]) <;> omega) | fail) only [pn, pq]) <;> omega) | fail) only [pn, pq, qSq3_leaves, qS30_leaves, qS35_leaves] at c36
          exact hq _ hJS35 hFS35 
        · try simp (disch := first | ((try simp (disch := first | ((try simp only [pn]) <;> omega) | fail) only [pn, pq]) <;> omega) | fail) only [pn, pq, qSq3_leaves, qS30_leaves, qS35_leaves] at c36
          refine sf_X5_put (J8g_text hJS35) (fun u38 hJu38 hfu38 hr37_0 => ?_)
          intro S39 eS39
          have hGS39 : F_X8_tellLeaf S S39 := by
            rw [eS39]
            exact ⟨hFS35.1, hFS35.2.1, hFS35.2.2.1, hFS35.2.2.2.1, hFS35.2.2.2.2.1, hFS35.2.2.2.2.2.1, hFS35.2.2.2.2.2.2.1, hFS35.2.2.2.2.2.2.2.1, hFS35.2.2.2.2.2.2.2.2⟩
          have hJS39 : J8 S39 := by rw [eS39]; exact (J8s_text hJS35 hJu38)
          have hFS39 : F_X8_tellLeaf S S39 := hGS39
          have je30 : ((b1g_hashBits (b8g_leaves S39))).toInt = ((b1g_hashBits (b8g_leaves S))).toInt := congrArg (fun z => ((b1g_hashBits z)).toInt) hFS39.2.2.2.1
          have je32 : ((b1g_realBits (b8g_leaves S39))).toInt = ((b1g_realBits (b8g_leaves S))).toInt := congrArg (fun z => ((b1g_realBits z)).toInt) hFS39.2.2.2.1
          have qS39_leaves : b8g_leaves S39 = b8g_leaves S := hFS39.2.2.2.1
          refine ⟨fun n x1q40 x4q40 Sq40 => (J8 Sq40) ∧ (F_X8_tellLeaf S Sq40) ∧ (x1q40 = x1q3) ∧ n = ((x4q40).toInt + 1).toNat, ⟨_, hJS39, hFS39, rfl, rfl⟩, ?_⟩
          rintro n41 x1q40 x4q40 Sq40 ⟨hJSq40, hFSq40, hkq40_0, hn41⟩
          subst hkq40_0
          have rgx1q40 := pt_rg x1q40
          have rgx4q40 := pt_rg x4q40
          unfold wp_X8_tellLeaf_131b
          have je34 : ((b1g_hashBits (b8g_leaves Sq40))).toInt = ((b1g_hashBits (b8g_leaves S))).toInt := congrArg (fun z => ((b1g_hashBits z)).toInt) hFSq40.2.2.2.1
          have je36 : ((b1g_realBits (b8g_leaves Sq40))).toInt = ((b1g_realBits (b8g_leaves S))).toInt := congrArg (fun z => ((b1g_realBits z)).toInt) hFSq40.2.2.2.1
          have qSq40_leaves : b8g_leaves Sq40 = b8g_leaves S := hFSq40.2.2.2.1
          refine ⟨fun c42 => ?_, fun c42 => ?_⟩
          · try simp (disch := first | ((try simp (disch := first | ((try simp only [pn]) <;> omega) | fail) only [pn, pq]) <;> omega) | fail) only [pn, pq, qSq3_leaves, qS30_leaves, qS35_leaves, qS39_leaves, qSq40_leaves] at c42
            exact hq _ hJSq40 hFSq40 
          · try simp (disch := first | ((try simp (disch := first | ((try simp only [pn]) <;> omega) | fail) only [pn, pq]) <;> omega) | fail) only [pn, pq, qSq3_leaves, qS30_leaves, qS35_leaves, qS39_leaves, qSq40_leaves] at c42
            refine sf_X1_nextAt (J8g_leaves hJSq40) (fun r43  => ?_)
            have rgr43 := pt_rg r43
            refine ⟨fun c45 => ?_, fun c45 => ?_⟩
            · try simp (disch := first | ((try simp (disch := first | ((try simp only [pn]) <;> omega) | fail) only [pn, pq]) <;> omega) | fail) only [pn, pq, qSq3_leaves, qS30_leaves, qS35_leaves, qS39_leaves, qSq40_leaves] at c45
              unfold wp_X8_tellLeaf_164
              refine sf_X5_put (J8g_text hJSq40) (fun u47 hJu47 hfu47 hr46_0 => ?_)
              intro S48 eS48
              have hGS48 : F_X8_tellLeaf S S48 := by
                rw [eS48]
                exact ⟨hFSq40.1, hFSq40.2.1, hFSq40.2.2.1, hFSq40.2.2.2.1, hFSq40.2.2.2.2.1, hFSq40.2.2.2.2.2.1, hFSq40.2.2.2.2.2.2.1, hFSq40.2.2.2.2.2.2.2.1, hFSq40.2.2.2.2.2.2.2.2⟩
              have hJS48 : J8 S48 := by rw [eS48]; exact (J8s_text hJSq40 hJu47)
              have hFS48 : F_X8_tellLeaf S S48 := hGS48
              have je38 : ((b1g_hashBits (b8g_leaves S48))).toInt = ((b1g_hashBits (b8g_leaves S))).toInt := congrArg (fun z => ((b1g_hashBits z)).toInt) hFS48.2.2.2.1
              have je40 : ((b1g_realBits (b8g_leaves S48))).toInt = ((b1g_realBits (b8g_leaves S))).toInt := congrArg (fun z => ((b1g_realBits z)).toInt) hFS48.2.2.2.1
              have qS48_leaves : b8g_leaves S48 = b8g_leaves S := hFS48.2.2.2.1
              refine ⟨_, ?_, ?_, ?_, ?_, rfl⟩
              · (try simp (disch := first | ((try simp (disch := first | ((try simp only [pn]) <;> omega) | fail) only [pn, pq]) <;> omega) | fail) only [pn, pq, qSq3_leaves, qS30_leaves, qS35_leaves, qS39_leaves, qSq40_leaves, qS48_leaves]) <;> (intros; (try simp (disch := first | ((try simp (disch := first | ((try simp only [pn]) <;> omega) | fail) only [pn, pq]) <;> omega) | fail) only [pn, pq, qSq3_leaves, qS30_leaves, qS35_leaves, qS39_leaves, qSq40_leaves, qS48_leaves]) <;> omega)
              · exact hJS48
              · exact hFS48
              · first | rfl | assumption
            · try simp (disch := first | ((try simp (disch := first | ((try simp only [pn]) <;> omega) | fail) only [pn, pq]) <;> omega) | fail) only [pn, pq, qSq3_leaves, qS30_leaves, qS35_leaves, qS39_leaves, qSq40_leaves] at c45
              unfold wp_X8_tellLeaf_164
              refine sf_X5_put (J8g_text hJSq40) (fun u50 hJu50 hfu50 hr49_0 => ?_)
              intro S51 eS51
              have hGS51 : F_X8_tellLeaf S S51 := by
                rw [eS51]
                exact ⟨hFSq40.1, hFSq40.2.1, hFSq40.2.2.1, hFSq40.2.2.2.1, hFSq40.2.2.2.2.1, hFSq40.2.2.2.2.2.1, hFSq40.2.2.2.2.2.2.1, hFSq40.2.2.2.2.2.2.2.1, hFSq40.2.2.2.2.2.2.2.2⟩
              have hJS51 : J8 S51 := by rw [eS51]; exact (J8s_text hJSq40 hJu50)
              have hFS51 : F_X8_tellLeaf S S51 := hGS51
              have je42 : ((b1g_hashBits (b8g_leaves S51))).toInt = ((b1g_hashBits (b8g_leaves S))).toInt := congrArg (fun z => ((b1g_hashBits z)).toInt) hFS51.2.2.2.1
              have je44 : ((b1g_realBits (b8g_leaves S51))).toInt = ((b1g_realBits (b8g_leaves S))).toInt := congrArg (fun z => ((b1g_realBits z)).toInt) hFS51.2.2.2.1
              have qS51_leaves : b8g_leaves S51 = b8g_leaves S := hFS51.2.2.2.1
              refine ⟨_, ?_, ?_, ?_, ?_, rfl⟩
              · (try simp (disch := first | ((try simp (disch := first | ((try simp only [pn]) <;> omega) | fail) only [pn, pq]) <;> omega) | fail) only [pn, pq, qSq3_leaves, qS30_leaves, qS35_leaves, qS39_leaves, qSq40_leaves, qS51_leaves]) <;> (intros; (try simp (disch := first | ((try simp (disch := first | ((try simp only [pn]) <;> omega) | fail) only [pn, pq]) <;> omega) | fail) only [pn, pq, qSq3_leaves, qS30_leaves, qS35_leaves, qS39_leaves, qSq40_leaves, qS51_leaves]) <;> omega)
              · exact hJS51
              · exact hFS51
              · first | rfl | assumption
    · try simp (disch := first | ((try simp (disch := first | ((try simp only [pn]) <;> omega) | fail) only [pn, pq]) <;> omega) | fail) only [pn, pq, qSq3_leaves] at c10
      refine sf_X5_put (J8g_text hJSq3) (fun u53 hJu53 hfu53 hr52_0 => ?_)
      intro S54 eS54
      have hGS54 : F_X8_tellLeaf S S54 := by
        rw [eS54]
        exact ⟨hFSq3.1, hFSq3.2.1, hFSq3.2.2.1, hFSq3.2.2.2.1, hFSq3.2.2.2.2.1, hFSq3.2.2.2.2.2.1, hFSq3.2.2.2.2.2.2.1, hFSq3.2.2.2.2.2.2.2.1, hFSq3.2.2.2.2.2.2.2.2⟩
      have hJS54 : J8 S54 := by rw [eS54]; exact (J8s_text hJSq3 hJu53)
      have hFS54 : F_X8_tellLeaf S S54 := hGS54
      have je46 : ((b1g_hashBits (b8g_leaves S54))).toInt = ((b1g_hashBits (b8g_leaves S))).toInt := congrArg (fun z => ((b1g_hashBits z)).toInt) hFS54.2.2.2.1
      have je48 : ((b1g_realBits (b8g_leaves S54))).toInt = ((b1g_realBits (b8g_leaves S))).toInt := congrArg (fun z => ((b1g_realBits z)).toInt) hFS54.2.2.2.1
      have qS54_leaves : b8g_leaves S54 = b8g_leaves S := hFS54.2.2.2.1
      unfold wp_X8_tellLeaf_67
      refine ⟨fun c55 => ?_, fun c55 => ?_⟩
      · try simp (disch := first | ((try simp (disch := first | ((try simp only [pn]) <;> omega) | fail) only [pn, pq]) <;> omega) | fail) only [pn, pq, qSq3_leaves, qS54_leaves] at c55
        unfold wp_X8_tellLeaf_101
        refine ⟨fun c56 => ?_, fun c56 => ?_⟩
        · try simp (disch := first | ((try simp (disch := first | ((try simp only [pn]) <;> omega) | fail) only [pn, pq]) <;> omega) | fail) only [pn, pq, qSq3_leaves, qS54_leaves] at c56
          exact hq _ hJS54 hFS54 
        · try simp (disch := first | ((try simp (disch := first | ((try simp only [pn]) <;> omega) | fail) only [pn, pq]) <;> omega) | fail) only [pn, pq, qSq3_leaves, qS54_leaves] at c56
          refine sf_X5_put (J8g_text hJS54) (fun u58 hJu58 hfu58 hr57_0 => ?_)
          intro S59 eS59
          have hGS59 : F_X8_tellLeaf S S59 := by
            rw [eS59]
            exact ⟨hFS54.1, hFS54.2.1, hFS54.2.2.1, hFS54.2.2.2.1, hFS54.2.2.2.2.1, hFS54.2.2.2.2.2.1, hFS54.2.2.2.2.2.2.1, hFS54.2.2.2.2.2.2.2.1, hFS54.2.2.2.2.2.2.2.2⟩
          have hJS59 : J8 S59 := by rw [eS59]; exact (J8s_text hJS54 hJu58)
          have hFS59 : F_X8_tellLeaf S S59 := hGS59
          have je50 : ((b1g_hashBits (b8g_leaves S59))).toInt = ((b1g_hashBits (b8g_leaves S))).toInt := congrArg (fun z => ((b1g_hashBits z)).toInt) hFS59.2.2.2.1
          have je52 : ((b1g_realBits (b8g_leaves S59))).toInt = ((b1g_realBits (b8g_leaves S))).toInt := congrArg (fun z => ((b1g_realBits z)).toInt) hFS59.2.2.2.1
          have qS59_leaves : b8g_leaves S59 = b8g_leaves S := hFS59.2.2.2.1
          refine ⟨fun n x1q60 x4q60 Sq60 => (J8 Sq60) ∧ (F_X8_tellLeaf S Sq60) ∧ (x1q60 = x1q3) ∧ n = ((x4q60).toInt + 1).toNat, ⟨_, hJS59, hFS59, rfl, rfl⟩, ?_⟩
          rintro n61 x1q60 x4q60 Sq60 ⟨hJSq60, hFSq60, hkq60_0, hn61⟩
          subst hkq60_0
          have rgx1q60 := pt_rg x1q60
          have rgx4q60 := pt_rg x4q60
          unfold wp_X8_tellLeaf_131b
          have je54 : ((b1g_hashBits (b8g_leaves Sq60))).toInt = ((b1g_hashBits (b8g_leaves S))).toInt := congrArg (fun z => ((b1g_hashBits z)).toInt) hFSq60.2.2.2.1
          have je56 : ((b1g_realBits (b8g_leaves Sq60))).toInt = ((b1g_realBits (b8g_leaves S))).toInt := congrArg (fun z => ((b1g_realBits z)).toInt) hFSq60.2.2.2.1
          have qSq60_leaves : b8g_leaves Sq60 = b8g_leaves S := hFSq60.2.2.2.1
          refine ⟨fun c62 => ?_, fun c62 => ?_⟩
          · try simp (disch := first | ((try simp (disch := first | ((try simp only [pn]) <;> omega) | fail) only [pn, pq]) <;> omega) | fail) only [pn, pq, qSq3_leaves, qS54_leaves, qS59_leaves, qSq60_leaves] at c62
            exact hq _ hJSq60 hFSq60 
          · try simp (disch := first | ((try simp (disch := first | ((try simp only [pn]) <;> omega) | fail) only [pn, pq]) <;> omega) | fail) only [pn, pq, qSq3_leaves, qS54_leaves, qS59_leaves, qSq60_leaves] at c62
            refine sf_X1_nextAt (J8g_leaves hJSq60) (fun r63  => ?_)
            have rgr63 := pt_rg r63
            refine ⟨fun c65 => ?_, fun c65 => ?_⟩
            · try simp (disch := first | ((try simp (disch := first | ((try simp only [pn]) <;> omega) | fail) only [pn, pq]) <;> omega) | fail) only [pn, pq, qSq3_leaves, qS54_leaves, qS59_leaves, qSq60_leaves] at c65
              unfold wp_X8_tellLeaf_164
              refine sf_X5_put (J8g_text hJSq60) (fun u67 hJu67 hfu67 hr66_0 => ?_)
              intro S68 eS68
              have hGS68 : F_X8_tellLeaf S S68 := by
                rw [eS68]
                exact ⟨hFSq60.1, hFSq60.2.1, hFSq60.2.2.1, hFSq60.2.2.2.1, hFSq60.2.2.2.2.1, hFSq60.2.2.2.2.2.1, hFSq60.2.2.2.2.2.2.1, hFSq60.2.2.2.2.2.2.2.1, hFSq60.2.2.2.2.2.2.2.2⟩
              have hJS68 : J8 S68 := by rw [eS68]; exact (J8s_text hJSq60 hJu67)
              have hFS68 : F_X8_tellLeaf S S68 := hGS68
              have je58 : ((b1g_hashBits (b8g_leaves S68))).toInt = ((b1g_hashBits (b8g_leaves S))).toInt := congrArg (fun z => ((b1g_hashBits z)).toInt) hFS68.2.2.2.1
              have je60 : ((b1g_realBits (b8g_leaves S68))).toInt = ((b1g_realBits (b8g_leaves S))).toInt := congrArg (fun z => ((b1g_realBits z)).toInt) hFS68.2.2.2.1
              have qS68_leaves : b8g_leaves S68 = b8g_leaves S := hFS68.2.2.2.1
              refine ⟨_, ?_, ?_, ?_, ?_, rfl⟩
              · (try simp (disch := first | ((try simp (disch := first | ((try simp only [pn]) <;> omega) | fail) only [pn, pq]) <;> omega) | fail) only [pn, pq, qSq3_leaves, qS54_leaves, qS59_leaves, qSq60_leaves, qS68_leaves]) <;> (intros; (try simp (disch := first | ((try simp (disch := first | ((try simp only [pn]) <;> omega) | fail) only [pn, pq]) <;> omega) | fail) only [pn, pq, qSq3_leaves, qS54_leaves, qS59_leaves, qSq60_leaves, qS68_leaves]) <;> omega)
              · exact hJS68
              · exact hFS68
              · first | rfl | assumption
            · try simp (disch := first | ((try simp (disch := first | ((try simp only [pn]) <;> omega) | fail) only [pn, pq]) <;> omega) | fail) only [pn, pq, qSq3_leaves, qS54_leaves, qS59_leaves, qSq60_leaves] at c65
              unfold wp_X8_tellLeaf_164
              refine sf_X5_put (J8g_text hJSq60) (fun u70 hJu70 hfu70 hr69_0 => ?_)
              intro S71 eS71
              have hGS71 : F_X8_tellLeaf S S71 := by
                rw [eS71]
                exact ⟨hFSq60.1, hFSq60.2.1, hFSq60.2.2.1, hFSq60.2.2.2.1, hFSq60.2.2.2.2.1, hFSq60.2.2.2.2.2.1, hFSq60.2.2.2.2.2.2.1, hFSq60.2.2.2.2.2.2.2.1, hFSq60.2.2.2.2.2.2.2.2⟩
              have hJS71 : J8 S71 := by rw [eS71]; exact (J8s_text hJSq60 hJu70)
              have hFS71 : F_X8_tellLeaf S S71 := hGS71
              have je62 : ((b1g_hashBits (b8g_leaves S71))).toInt = ((b1g_hashBits (b8g_leaves S))).toInt := congrArg (fun z => ((b1g_hashBits z)).toInt) hFS71.2.2.2.1
              have je64 : ((b1g_realBits (b8g_leaves S71))).toInt = ((b1g_realBits (b8g_leaves S))).toInt := congrArg (fun z => ((b1g_realBits z)).toInt) hFS71.2.2.2.1
              have qS71_leaves : b8g_leaves S71 = b8g_leaves S := hFS71.2.2.2.1
              refine ⟨_, ?_, ?_, ?_, ?_, rfl⟩
              · (try simp (disch := first | ((try simp (disch := first | ((try simp only [pn]) <;> omega) | fail) only [pn, pq]) <;> omega) | fail) only [pn, pq, qSq3_leaves, qS54_leaves, qS59_leaves, qSq60_leaves, qS71_leaves]) <;> (intros; (try simp (disch := first | ((try simp (disch := first | ((try simp only [pn]) <;> omega) | fail) only [pn, pq]) <;> omega) | fail) only [pn, pq, qSq3_leaves, qS54_leaves, qS59_leaves, qSq60_leaves, qS71_leaves]) <;> omega)
              · exact hJS71
              · exact hFS71
              · first | rfl | assumption
      · try simp (disch := first | ((try simp (disch := first | ((try simp only [pn]) <;> omega) | fail) only [pn, pq]) <;> omega) | fail) only [pn, pq, qSq3_leaves, qS54_leaves] at c55
        refine sf_X5_put (J8g_text hJS54) (fun u73 hJu73 hfu73 hr72_0 => ?_)
        intro S74 eS74
        have hGS74 : F_X8_tellLeaf S S74 := by
          rw [eS74]
          exact ⟨hFS54.1, hFS54.2.1, hFS54.2.2.1, hFS54.2.2.2.1, hFS54.2.2.2.2.1, hFS54.2.2.2.2.2.1, hFS54.2.2.2.2.2.2.1, hFS54.2.2.2.2.2.2.2.1, hFS54.2.2.2.2.2.2.2.2⟩
        have hJS74 : J8 S74 := by rw [eS74]; exact (J8s_text hJS54 hJu73)
        have hFS74 : F_X8_tellLeaf S S74 := hGS74
        have je66 : ((b1g_hashBits (b8g_leaves S74))).toInt = ((b1g_hashBits (b8g_leaves S))).toInt := congrArg (fun z => ((b1g_hashBits z)).toInt) hFS74.2.2.2.1
        have je68 : ((b1g_realBits (b8g_leaves S74))).toInt = ((b1g_realBits (b8g_leaves S))).toInt := congrArg (fun z => ((b1g_realBits z)).toInt) hFS74.2.2.2.1
        have qS74_leaves : b8g_leaves S74 = b8g_leaves S := hFS74.2.2.2.1
        refine sf_X1_hashAt (J8g_leaves hJS74) (fun r75  => ?_)
        have rgr75 := pt_rg r75
        refine sf_X5_putNumber (J8g_text hJS74) (fun u78 hJu78 hfu78 hr77_0 => ?_)
        intro S79 eS79
        have hGS79 : F_X8_tellLeaf S S79 := by
          rw [eS79]
          exact ⟨hFS74.1, hFS74.2.1, hFS74.2.2.1, hFS74.2.2.2.1, hFS74.2.2.2.2.1, hFS74.2.2.2.2.2.1, hFS74.2.2.2.2.2.2.1, hFS74.2.2.2.2.2.2.2.1, hFS74.2.2.2.2.2.2.2.2⟩
        have hJS79 : J8 S79 := by rw [eS79]; exact (J8s_text hJS74 hJu78)
        have hFS79 : F_X8_tellLeaf S S79 := hGS79
        have je70 : ((b1g_hashBits (b8g_leaves S79))).toInt = ((b1g_hashBits (b8g_leaves S))).toInt := congrArg (fun z => ((b1g_hashBits z)).toInt) hFS79.2.2.2.1
        have je72 : ((b1g_realBits (b8g_leaves S79))).toInt = ((b1g_realBits (b8g_leaves S))).toInt := congrArg (fun z => ((b1g_realBits z)).toInt) hFS79.2.2.2.1
        have qS79_leaves : b8g_leaves S79 = b8g_leaves S := hFS79.2.2.2.1
        unfold wp_X8_tellLeaf_101
        refine ⟨fun c80 => ?_, fun c80 => ?_⟩
        · try simp (disch := first | ((try simp (disch := first | ((try simp only [pn]) <;> omega) | fail) only [pn, pq]) <;> omega) | fail) only [pn, pq, qSq3_leaves, qS54_leaves, qS74_leaves, qS79_leaves] at c80
          exact hq _ hJS79 hFS79 
        · try simp (disch := first | ((try simp (disch := first | ((try simp only [pn]) <;> omega) | fail) only [pn, pq]) <;> omega) | fail) only [pn, pq, qSq3_leaves, qS54_leaves, qS74_leaves, qS79_leaves] at c80
          refine sf_X5_put (J8g_text hJS79) (fun u82 hJu82 hfu82 hr81_0 => ?_)
          intro S83 eS83
          have hGS83 : F_X8_tellLeaf S S83 := by
            rw [eS83]
            exact ⟨hFS79.1, hFS79.2.1, hFS79.2.2.1, hFS79.2.2.2.1, hFS79.2.2.2.2.1, hFS79.2.2.2.2.2.1, hFS79.2.2.2.2.2.2.1, hFS79.2.2.2.2.2.2.2.1, hFS79.2.2.2.2.2.2.2.2⟩
          have hJS83 : J8 S83 := by rw [eS83]; exact (J8s_text hJS79 hJu82)
          have hFS83 : F_X8_tellLeaf S S83 := hGS83
          have je74 : ((b1g_hashBits (b8g_leaves S83))).toInt = ((b1g_hashBits (b8g_leaves S))).toInt := congrArg (fun z => ((b1g_hashBits z)).toInt) hFS83.2.2.2.1
          have je76 : ((b1g_realBits (b8g_leaves S83))).toInt = ((b1g_realBits (b8g_leaves S))).toInt := congrArg (fun z => ((b1g_realBits z)).toInt) hFS83.2.2.2.1
          have qS83_leaves : b8g_leaves S83 = b8g_leaves S := hFS83.2.2.2.1
          refine ⟨fun n x1q84 x4q84 Sq84 => (J8 Sq84) ∧ (F_X8_tellLeaf S Sq84) ∧ (x1q84 = x1q3) ∧ n = ((x4q84).toInt + 1).toNat, ⟨_, hJS83, hFS83, rfl, rfl⟩, ?_⟩
          rintro n85 x1q84 x4q84 Sq84 ⟨hJSq84, hFSq84, hkq84_0, hn85⟩
          subst hkq84_0
          have rgx1q84 := pt_rg x1q84
          have rgx4q84 := pt_rg x4q84
          unfold wp_X8_tellLeaf_131b
          have je78 : ((b1g_hashBits (b8g_leaves Sq84))).toInt = ((b1g_hashBits (b8g_leaves S))).toInt := congrArg (fun z => ((b1g_hashBits z)).toInt) hFSq84.2.2.2.1
          have je80 : ((b1g_realBits (b8g_leaves Sq84))).toInt = ((b1g_realBits (b8g_leaves S))).toInt := congrArg (fun z => ((b1g_realBits z)).toInt) hFSq84.2.2.2.1
          have qSq84_leaves : b8g_leaves Sq84 = b8g_leaves S := hFSq84.2.2.2.1
          refine ⟨fun c86 => ?_, fun c86 => ?_⟩
          · try simp (disch := first | ((try simp (disch := first | ((try simp only [pn]) <;> omega) | fail) only [pn, pq]) <;> omega) | fail) only [pn, pq, qSq3_leaves, qS54_leaves, qS74_leaves, qS79_leaves, qS83_leaves, qSq84_leaves] at c86
            exact hq _ hJSq84 hFSq84 
          · try simp (disch := first | ((try simp (disch := first | ((try simp only [pn]) <;> omega) | fail) only [pn, pq]) <;> omega) | fail) only [pn, pq, qSq3_leaves, qS54_leaves, qS74_leaves, qS79_leaves, qS83_leaves, qSq84_leaves] at c86
            refine sf_X1_nextAt (J8g_leaves hJSq84) (fun r87  => ?_)
            have rgr87 := pt_rg r87
            refine ⟨fun c89 => ?_, fun c89 => ?_⟩
            · try simp (disch := first | ((try simp (disch := first | ((try simp only [pn]) <;> omega) | fail) only [pn, pq]) <;> omega) | fail) only [pn, pq, qSq3_leaves, qS54_leaves, qS74_leaves, qS79_leaves, qS83_leaves, qSq84_leaves] at c89
              unfold wp_X8_tellLeaf_164
              refine sf_X5_put (J8g_text hJSq84) (fun u91 hJu91 hfu91 hr90_0 => ?_)
              intro S92 eS92
              have hGS92 : F_X8_tellLeaf S S92 := by
                rw [eS92]
                exact ⟨hFSq84.1, hFSq84.2.1, hFSq84.2.2.1, hFSq84.2.2.2.1, hFSq84.2.2.2.2.1, hFSq84.2.2.2.2.2.1, hFSq84.2.2.2.2.2.2.1, hFSq84.2.2.2.2.2.2.2.1, hFSq84.2.2.2.2.2.2.2.2⟩
              have hJS92 : J8 S92 := by rw [eS92]; exact (J8s_text hJSq84 hJu91)
              have hFS92 : F_X8_tellLeaf S S92 := hGS92
              have je82 : ((b1g_hashBits (b8g_leaves S92))).toInt = ((b1g_hashBits (b8g_leaves S))).toInt := congrArg (fun z => ((b1g_hashBits z)).toInt) hFS92.2.2.2.1
              have je84 : ((b1g_realBits (b8g_leaves S92))).toInt = ((b1g_realBits (b8g_leaves S))).toInt := congrArg (fun z => ((b1g_realBits z)).toInt) hFS92.2.2.2.1
              have qS92_leaves : b8g_leaves S92 = b8g_leaves S := hFS92.2.2.2.1
              refine ⟨_, ?_, ?_, ?_, ?_, rfl⟩
              · (try simp (disch := first | ((try simp (disch := first | ((try simp only [pn]) <;> omega) | fail) only [pn, pq]) <;> omega) | fail) only [pn, pq, qSq3_leaves, qS54_leaves, qS74_leaves, qS79_leaves, qS83_leaves, qSq84_leaves, qS92_leaves]) <;> (intros; (try simp (disch := first | ((try simp (disch := first | ((try simp only [pn]) <;> omega) | fail) only [pn, pq]) <;> omega) | fail) only [pn, pq, qSq3_leaves, qS54_leaves, qS74_leaves, qS79_leaves, qS83_leaves, qSq84_leaves, qS92_leaves]) <;> omega)
              · exact hJS92
              · exact hFS92
              · first | rfl | assumption
            · try simp (disch := first | ((try simp (disch := first | ((try simp only [pn]) <;> omega) | fail) only [pn, pq]) <;> omega) | fail) only [pn, pq, qSq3_leaves, qS54_leaves, qS74_leaves, qS79_leaves, qS83_leaves, qSq84_leaves] at c89
              unfold wp_X8_tellLeaf_164
              refine sf_X5_put (J8g_text hJSq84) (fun u94 hJu94 hfu94 hr93_0 => ?_)
              intro S95 eS95
              have hGS95 : F_X8_tellLeaf S S95 := by
                rw [eS95]
                exact ⟨hFSq84.1, hFSq84.2.1, hFSq84.2.2.1, hFSq84.2.2.2.1, hFSq84.2.2.2.2.1, hFSq84.2.2.2.2.2.1, hFSq84.2.2.2.2.2.2.1, hFSq84.2.2.2.2.2.2.2.1, hFSq84.2.2.2.2.2.2.2.2⟩
              have hJS95 : J8 S95 := by rw [eS95]; exact (J8s_text hJSq84 hJu94)
              have hFS95 : F_X8_tellLeaf S S95 := hGS95
              have je86 : ((b1g_hashBits (b8g_leaves S95))).toInt = ((b1g_hashBits (b8g_leaves S))).toInt := congrArg (fun z => ((b1g_hashBits z)).toInt) hFS95.2.2.2.1
              have je88 : ((b1g_realBits (b8g_leaves S95))).toInt = ((b1g_realBits (b8g_leaves S))).toInt := congrArg (fun z => ((b1g_realBits z)).toInt) hFS95.2.2.2.1
              have qS95_leaves : b8g_leaves S95 = b8g_leaves S := hFS95.2.2.2.1
              refine ⟨_, ?_, ?_, ?_, ?_, rfl⟩
              · (try simp (disch := first | ((try simp (disch := first | ((try simp only [pn]) <;> omega) | fail) only [pn, pq]) <;> omega) | fail) only [pn, pq, qSq3_leaves, qS54_leaves, qS74_leaves, qS79_leaves, qS83_leaves, qSq84_leaves, qS95_leaves]) <;> (intros; (try simp (disch := first | ((try simp (disch := first | ((try simp only [pn]) <;> omega) | fail) only [pn, pq]) <;> omega) | fail) only [pn, pq, qSq3_leaves, qS54_leaves, qS74_leaves, qS79_leaves, qS83_leaves, qSq84_leaves, qS95_leaves]) <;> omega)
              · exact hJS95
              · exact hFS95
              · first | rfl | assumption
  · try simp (disch := first | ((try simp (disch := first | ((try simp only [pn]) <;> omega) | fail) only [pn, pq]) <;> omega) | fail) only [pn, pq, qSq3_leaves] at c7
    refine sf_X8_octetAt  (fun r96  => ?_)
    have rgr96 := pt_rg r96
    refine sf_X5_putOctet (J8g_text hJSq3) (fun u99 hJu99 hfu99 hr98_0 => ?_)
    intro S100 eS100
    have hGS100 : F_X8_tellLeaf S S100 := by
      rw [eS100]
      exact ⟨hFSq3.1, hFSq3.2.1, hFSq3.2.2.1, hFSq3.2.2.2.1, hFSq3.2.2.2.2.1, hFSq3.2.2.2.2.2.1, hFSq3.2.2.2.2.2.2.1, hFSq3.2.2.2.2.2.2.2.1, hFSq3.2.2.2.2.2.2.2.2⟩
    have hJS100 : J8 S100 := by rw [eS100]; exact (J8s_text hJSq3 hJu99)
    have hFS100 : F_X8_tellLeaf S S100 := hGS100
    have je90 : ((b1g_hashBits (b8g_leaves S100))).toInt = ((b1g_hashBits (b8g_leaves S))).toInt := congrArg (fun z => ((b1g_hashBits z)).toInt) hFS100.2.2.2.1
    have je92 : ((b1g_realBits (b8g_leaves S100))).toInt = ((b1g_realBits (b8g_leaves S))).toInt := congrArg (fun z => ((b1g_realBits z)).toInt) hFS100.2.2.2.1
    have qS100_leaves : b8g_leaves S100 = b8g_leaves S := hFS100.2.2.2.1
    refine ⟨_, ?_, ?_, ?_, ?_, ?_, ?_, rfl⟩
    · (try simp (disch := first | ((try simp (disch := first | ((try simp only [pn]) <;> omega) | fail) only [pn, pq]) <;> omega) | fail) only [pn, pq, qSq3_leaves, qS100_leaves]) <;> (intros; (try simp (disch := first | ((try simp (disch := first | ((try simp only [pn]) <;> omega) | fail) only [pn, pq]) <;> omega) | fail) only [pn, pq, qSq3_leaves, qS100_leaves]) <;> omega)
    · exact hJS100
    · exact hFS100
    · first | rfl | assumption
    · first | rfl | assumption
    · (try simp (disch := first | ((try simp (disch := first | ((try simp only [pn]) <;> omega) | fail) only [pn, pq]) <;> omega) | fail) only [pn, pq, qSq3_leaves, qS100_leaves]) <;> (intros; (try simp (disch := first | ((try simp (disch := first | ((try simp only [pn]) <;> omega) | fail) only [pn, pq]) <;> omega) | fail) only [pn, pq, qSq3_leaves, qS100_leaves]) <;> omega)
theorem sf_X8_tellLeaf {S : bT8} (hJ : J8 S) {a1 : Int32} {Q : (bT8) → Prop} (hq : ∀ u : bT8, (J8 u) → F_X8_tellLeaf S u → (LVO (b8g_leaves S) → (0 ≤ a1.toInt ∧ a1.toInt < (b0g_count (b1g_owners (b8g_leaves S))).toInt) → (0 ≤ (b1g_hashBits (b8g_leaves S)).toInt ∧ (b1g_hashBits (b8g_leaves S)).toInt ≤ 8) → SAY (b8g_text S) (b8g_text u) (LTX (tC (b8g_leaves S)) (b0g_bytes (b1g_owners (b8g_leaves S))) (b0g_lengths (b1g_owners (b8g_leaves S))) (b1g_salt (b8g_leaves S)) (b1g_hashBits (b8g_leaves S)) (b1g_realBits (b8g_leaves S)) a1.toInt.toNat)) → Q u) : wp_X8_tellLeaf S a1 Q := by
  by_cases hyp : LVO (b8g_leaves S) ∧ (0 ≤ a1.toInt ∧ a1.toInt < (b0g_count (b1g_owners (b8g_leaves S))).toInt) ∧ (0 ≤ (b1g_hashBits (b8g_leaves S)).toInt ∧ (b1g_hashBits (b8g_leaves S)).toInt ≤ 8)
  case neg => exact sj_X8_tellLeaf hJ (fun u j f => hq u j f (fun a b c => absurd ⟨a, b, c⟩ hyp))
  case pos =>
    obtain ⟨o, ⟨a0, a9⟩, hb0, hb8⟩ := hyp
    have jX := J8g_leaves hJ
    have jn := tnn jX
    have G := tG o jX
    have g64 := G.1
    obtain ⟨i, ei⟩ : ∃ i : Nat, a1.toInt = (i : Int) := ⟨a1.toInt.toNat, by omega⟩
    have ein : a1.toInt.toNat = i := by omega
    have hi : i < tn (b8g_leaves S) := by omega
    have ai := G.2.1 i hi
    obtain ⟨v1, v2, v3, v4⟩ := (o.1.2.2 i (by omega)).1
    have v2' : (b1g_lengths (b8g_leaves S) i).toInt = ((min (tC (b8g_leaves S) i + 1) (tL (b8g_leaves S) i) : Nat) : Int) := v2
    have mL : ((b0g_lengths (b1g_owners (b8g_leaves S))) i).toInt.toNat = tL (b8g_leaves S) i := rfl
    have rb0 := o.2.2.2.1
    have rb8 := o.2.2.2.2
    have eN : b1g_nexts (b8g_leaves S) i = OC8 ((b0g_bytes (b1g_owners (b8g_leaves S))) i) (nI (min (tC (b8g_leaves S) i + 1) ((b0g_lengths (b1g_owners (b8g_leaves S))) i).toInt.toNat)) := by rw [v4, nI_ofN v2']; rfl
    have eH : b1g_hashes (b8g_leaves S) i = MIX (b1g_salt (b8g_leaves S)) ((b0g_bytes (b1g_owners (b8g_leaves S))) i) ((b0g_lengths (b1g_owners (b8g_leaves S))) i) := v3
    rw [ein] at hq
    have hFS : F_X8_tellLeaf S S := ⟨rfl, rfl, rfl, rfl, rfl, rfl, rfl, rfl, rfl⟩
    have fin : ∀ V : bT8, J8 V → F_X8_tellLeaf S V → SAY (b8g_text S) (b8g_text V) (LTX (tC (b8g_leaves S)) (b0g_bytes (b1g_owners (b8g_leaves S))) (b0g_lengths (b1g_owners (b8g_leaves S))) (b1g_salt (b8g_leaves S)) (b1g_hashBits (b8g_leaves S)) (b1g_realBits (b8g_leaves S)) i) → Q V := fun V j f s => hq V j f (fun _ _ _ => s)
    have step3 : ∀ (V : bT8) (pre : List Int), J8 V → F_X8_tellLeaf S V → SAY (b8g_text S) (b8g_text V) pre → pre ++ LXR (tC (b8g_leaves S)) (b0g_bytes (b1g_owners (b8g_leaves S))) (b0g_lengths (b1g_owners (b8g_leaves S))) (b1g_realBits (b8g_leaves S)) i = LTX (tC (b8g_leaves S)) (b0g_bytes (b1g_owners (b8g_leaves S))) (b0g_lengths (b1g_owners (b8g_leaves S))) (b1g_salt (b8g_leaves S)) (b1g_hashBits (b8g_leaves S)) (b1g_realBits (b8g_leaves S)) i → wp_X8_tellLeaf_101 V a1 Q := by
      intro V pre jV fV sy eW
      have eL : b8g_leaves V = (b8g_leaves S) := fV.2.2.2.1
      unfold wp_X8_tellLeaf_101
      rw [eL]
      refine ⟨fun c => ?_, fun c => ?_⟩
      · have d0 : LXR (tC (b8g_leaves S)) (b0g_bytes (b1g_owners (b8g_leaves S))) (b0g_lengths (b1g_owners (b8g_leaves S))) (b1g_realBits (b8g_leaves S)) i = [] := if_pos (by rw [c]; rfl)
        rw [d0, List.append_nil] at eW
        refine fin V jV fV ?_
        rw [← eW]
        exact sy
      · have c0 : ¬ (b1g_realBits (b8g_leaves S)).toInt = 0 := fun z => c (Int32.toInt_inj.mp z)
        have d0 : LXR (tC (b8g_leaves S)) (b0g_bytes (b1g_owners (b8g_leaves S))) (b0g_lengths (b1g_owners (b8g_leaves S))) (b1g_realBits (b8g_leaves S)) i = [47] ++ RBS (LXN (tC (b8g_leaves S)) (b0g_bytes (b1g_owners (b8g_leaves S))) (b0g_lengths (b1g_owners (b8g_leaves S))) (b1g_realBits (b8g_leaves S)) i) (b1g_realBits (b8g_leaves S)).toInt.toNat := if_neg c0
        rw [d0, ← List.append_assoc] at eW
        refine sf_X5_put (J8g_text jV) (fun u7 j7 _ s7 S8 e8 => ?_)
        have t8 : b8g_text S8 = u7 := by rw [e8]
        have jS8 : J8 S8 := by rw [e8]; exact J8s_text jV j7
        have fS8 : F_X8_tellLeaf S S8 := by rw [e8]; exact fV
        have eL8 : b8g_leaves S8 = (b8g_leaves S) := fS8.2.2.2.1
        rw [eL8]
        have r7 : SAY (b8g_text V) u7 [47] := s7 (by decide) (by decide)
        have rm : (b1g_realBits (b8g_leaves S) - 1).toInt = (((b1g_realBits (b8g_leaves S)).toInt.toNat : Nat) : Int) - 1 := by rw [pt_sub (by rw [pl_1]; omega) (by rw [pl_1]; omega), pl_1]; omega
        unfold wp_X8_tellLeaf_131
        refine ⟨fun n x1 x4 U => ∃ (m : Nat) (pr : List Int), a1 = x1 ∧ x4.toInt = (m : Int) - 1 ∧ m ≤ 8 ∧ J8 U ∧ F_X8_tellLeaf S U ∧ SAY (b8g_text S) (b8g_text U) pr ∧ pr ++ RBS (LXN (tC (b8g_leaves S)) (b0g_bytes (b1g_owners (b8g_leaves S))) (b0g_lengths (b1g_owners (b8g_leaves S))) (b1g_realBits (b8g_leaves S)) i) m = LTX (tC (b8g_leaves S)) (b0g_bytes (b1g_owners (b8g_leaves S))) (b0g_lengths (b1g_owners (b8g_leaves S))) (b1g_salt (b8g_leaves S)) (b1g_hashBits (b8g_leaves S)) (b1g_realBits (b8g_leaves S)) i ∧ n = m, ⟨_, (b1g_realBits (b8g_leaves S)).toInt.toNat, pre ++ [47], rfl, rm, by omega, jS8, fS8, by rw [t8]; exact SAY_tr sy r7, eW, rfl⟩, ?_⟩
        rintro n x1 x4 U ⟨m, pr, rfl, e4, m8, jU, fU, su, eW2, rfl⟩
        suffices H : ∀ B : Int32 → Int32 → bT8 → Prop, (∀ (x' : Int32) (m' : Nat) (W : bT8) (p' : List Int), n = m' + 1 → x'.toInt = (m' : Int) - 1 → J8 W → F_X8_tellLeaf S W → SAY (b8g_text S) (b8g_text W) p' → p' ++ RBS (LXN (tC (b8g_leaves S)) (b0g_bytes (b1g_owners (b8g_leaves S))) (b0g_lengths (b1g_owners (b8g_leaves S))) (b1g_realBits (b8g_leaves S)) i) m' = LTX (tC (b8g_leaves S)) (b0g_bytes (b1g_owners (b8g_leaves S))) (b0g_lengths (b1g_owners (b8g_leaves S))) (b1g_salt (b8g_leaves S)) (b1g_hashBits (b8g_leaves S)) (b1g_realBits (b8g_leaves S)) i → B a1 x' W) → wp_X8_tellLeaf_131b U a1 x4 Q B from H _ (fun x' m' W p' h1 h2 h3 h4 h5 h6 => ⟨m', by omega, m', p', rfl, h2, by omega, h3, h4, h5, h6, rfl⟩)
        intro B hB
        have eLU : b8g_leaves U = (b8g_leaves S) := fU.2.2.2.1
        unfold wp_X8_tellLeaf_131b
        refine ⟨fun c => ?_, fun c => ?_⟩
        · simp only [pn] at c
          have m0 : n = 0 := by omega
          rw [m0, show RBS (LXN (tC (b8g_leaves S)) (b0g_bytes (b1g_owners (b8g_leaves S))) (b0g_lengths (b1g_owners (b8g_leaves S))) (b1g_realBits (b8g_leaves S)) i) 0 = [] from rfl, List.append_nil] at eW2
          refine fin U jU fU ?_
          rw [← eW2]
          exact su
        · simp only [pn] at c
          obtain ⟨m', em⟩ : ∃ m' : Nat, n = m' + 1 := ⟨n - 1, by omega⟩
          have x4' : x4 = nI m' := nI_ofN (by omega)
          rw [eLU]
          unfold wp_X1_nextAt wp_X8_highest
          refine fx_atN (by decide) ei (by omega) ?_
          rw [eN, x4']
          rw [em] at eW2
          have ab := and_rng (x := LXN (tC (b8g_leaves S)) (b0g_bytes (b1g_owners (b8g_leaves S))) (b0g_lengths (b1g_owners (b8g_leaves S))) (b1g_realBits (b8g_leaves S)) i >>> (nI m' &&& 31)) (m := 1) (by decide)
          have ab1 := ab.2
          rw [pl_1] at ab1
          have go : ∀ ch : Int32, 0 ≤ ch.toInt → ch.toInt < 65536 → ch.toInt = 48 + ((LXN (tC (b8g_leaves S)) (b0g_bytes (b1g_owners (b8g_leaves S))) (b0g_lengths (b1g_owners (b8g_leaves S))) (b1g_realBits (b8g_leaves S)) i >>> (nI m' &&& 31)) &&& 1).toInt → wp_X8_tellLeaf_164 U a1 (nI m') ch Q B := by
            intro ch c0 c1 cv
            unfold wp_X8_tellLeaf_164
            refine sf_X5_put (J8g_text jU) (fun u2 j2 _ s2 S3 e3 => ?_)
            have t3 : b8g_text S3 = u2 := by rw [e3]
            have r2 := s2 c0 c1
            rw [cv] at r2
            refine hB _ m' S3 (pr ++ [48 + ((LXN (tC (b8g_leaves S)) (b0g_bytes (b1g_owners (b8g_leaves S))) (b0g_lengths (b1g_owners (b8g_leaves S))) (b1g_realBits (b8g_leaves S)) i >>> (nI m' &&& 31)) &&& 1).toInt]) em ?_ (by rw [e3]; exact J8s_text jU j2) (by rw [e3]; exact fU) (by rw [t3]; exact SAY_tr su r2) ?_
            · rw [nI_m1 (by omega)]
            · rw [List.append_assoc]
              exact eW2
          refine ⟨fun d => go 48 (by decide) (by decide) ?_, fun d => go 49 (by decide) (by decide) ?_⟩
          · have z : ¬ ((LXN (tC (b8g_leaves S)) (b0g_bytes (b1g_owners (b8g_leaves S))) (b0g_lengths (b1g_owners (b8g_leaves S))) (b1g_realBits (b8g_leaves S)) i >>> (nI m' &&& 31)) &&& 1).toInt = 1 := fun y => d (Int32.toInt_inj.mp y)
            show (48 : Int) = 48 + _
            omega
          · have z : ((LXN (tC (b8g_leaves S)) (b0g_bytes (b1g_owners (b8g_leaves S))) (b0g_lengths (b1g_owners (b8g_leaves S))) (b1g_realBits (b8g_leaves S)) i >>> (nI m' &&& 31)) &&& 1).toInt = 1 := congrArg Int32.toInt d
            rw [z]
            rfl
    have step2 : ∀ (V : bT8) (pre : List Int), J8 V → F_X8_tellLeaf S V → SAY (b8g_text S) (b8g_text V) pre → pre ++ (LXH (b0g_bytes (b1g_owners (b8g_leaves S))) (b0g_lengths (b1g_owners (b8g_leaves S))) (b1g_salt (b8g_leaves S)) (b1g_hashBits (b8g_leaves S)) i ++ LXR (tC (b8g_leaves S)) (b0g_bytes (b1g_owners (b8g_leaves S))) (b0g_lengths (b1g_owners (b8g_leaves S))) (b1g_realBits (b8g_leaves S)) i) = LTX (tC (b8g_leaves S)) (b0g_bytes (b1g_owners (b8g_leaves S))) (b0g_lengths (b1g_owners (b8g_leaves S))) (b1g_salt (b8g_leaves S)) (b1g_hashBits (b8g_leaves S)) (b1g_realBits (b8g_leaves S)) i → wp_X8_tellLeaf_67 V a1 Q := by
      intro V pre jV fV sy eW
      have eL : b8g_leaves V = (b8g_leaves S) := fV.2.2.2.1
      unfold wp_X8_tellLeaf_67
      rw [eL]
      rw [← List.append_assoc] at eW
      refine ⟨fun c => ?_, fun c => ?_⟩
      · have d0 : LXH (b0g_bytes (b1g_owners (b8g_leaves S))) (b0g_lengths (b1g_owners (b8g_leaves S))) (b1g_salt (b8g_leaves S)) (b1g_hashBits (b8g_leaves S)) i = [] := if_pos (by rw [c]; rfl)
        rw [d0, List.append_nil] at eW
        exact step3 V pre jV fV sy eW
      · have c0 : ¬ (b1g_hashBits (b8g_leaves S)).toInt = 0 := fun z => c (Int32.toInt_inj.mp z)
        have d0 : LXH (b0g_bytes (b1g_owners (b8g_leaves S))) (b0g_lengths (b1g_owners (b8g_leaves S))) (b1g_salt (b8g_leaves S)) (b1g_hashBits (b8g_leaves S)) i = [35] ++ DIG (LWS (MIX (b1g_salt (b8g_leaves S)) ((b0g_bytes (b1g_owners (b8g_leaves S))) i) ((b0g_lengths (b1g_owners (b8g_leaves S))) i)) (b1g_hashBits (b8g_leaves S))).toInt := if_neg c0
        refine sf_X5_put (J8g_text jV) (fun u10 j10 _ s10 S11 e11 => ?_)
        have t11 : b8g_text S11 = u10 := by rw [e11]
        have jS11 : J8 S11 := by rw [e11]; exact J8s_text jV j10
        have fS11 : F_X8_tellLeaf S S11 := by rw [e11]; exact fV
        have eL11 : b8g_leaves S11 = (b8g_leaves S) := fS11.2.2.2.1
        rw [eL11, t11]
        have r10 : SAY (b8g_text V) u10 [35] := s10 (by decide) (by decide)
        unfold wp_X1_hashAt wp_X8_lowest
        refine fx_atN (by decide) ei (by omega) (sf_X5_putNumber j10 (fun u15 j15 _ s15 S16 e16 => ?_))
        have lr := LWS_rng (x := b1g_hashes (b8g_leaves S) i) hb0 hb8
        have r15 : SAY u10 u15 (DIG (LWS (b1g_hashes (b8g_leaves S) i) (b1g_hashBits (b8g_leaves S))).toInt) := s15 (by show 0 ≤ (LWS (b1g_hashes (b8g_leaves S) i) (b1g_hashBits (b8g_leaves S))).toInt; omega) (by show (LWS (b1g_hashes (b8g_leaves S) i) (b1g_hashBits (b8g_leaves S))).toInt ≤ 999; omega)
        rw [eH] at r15
        have t16 : b8g_text S16 = u15 := by rw [e16]
        refine step3 S16 (pre ++ LXH (b0g_bytes (b1g_owners (b8g_leaves S))) (b0g_lengths (b1g_owners (b8g_leaves S))) (b1g_salt (b8g_leaves S)) (b1g_hashBits (b8g_leaves S)) i) (by rw [e16]; exact J8s_text jS11 j15) (by rw [e16]; exact fS11) ?_ eW
        rw [t16, d0]
        exact SAY_tr sy (SAY_tr r10 r15)
    unfold wp_X8_tellLeaf
    refine fx_bytesAt (J1g_owners jX) (fun r29 h29 _ => ?_)
    have e29 : r29 = (b0g_bytes (b1g_owners (b8g_leaves S))) i := h29 i (by omega) (by omega)
    rw [e29]
    unfold wp_X8_tellLeaf_15
    refine ⟨fun n x1 x2 x4 U => ∃ m : Nat, a1 = x1 ∧ x2 = (b0g_bytes (b1g_owners (b8g_leaves S))) i ∧ x4.toInt = (m : Int) ∧ m ≤ min (tC (b8g_leaves S) i + 1) (tL (b8g_leaves S) i) ∧ J8 U ∧ F_X8_tellLeaf S U ∧ SAY (b8g_text S) (b8g_text U) (HXS ((b0g_bytes (b1g_owners (b8g_leaves S))) i) m) ∧ n = 8 - m, ⟨_, 0, rfl, rfl, rfl, by omega, hJ, hFS, SAY_nil _, rfl⟩, ?_⟩
    rintro n x1 x2 x4 U ⟨m, rfl, rfl, e4, mb, jU, fU, su, hn⟩
    suffices H : ∀ B : Int32 → Int64 → Int32 → bT8 → Prop, (∀ (x' : Int32) (W : bT8), m < min (tC (b8g_leaves S) i + 1) (tL (b8g_leaves S) i) → x'.toInt = ((m + 1 : Nat) : Int) → J8 W → F_X8_tellLeaf S W → SAY (b8g_text S) (b8g_text W) (HXS ((b0g_bytes (b1g_owners (b8g_leaves S))) i) (m + 1)) → B a1 ((b0g_bytes (b1g_owners (b8g_leaves S))) i) x' W) → wp_X8_tellLeaf_15b U a1 ((b0g_bytes (b1g_owners (b8g_leaves S))) i) x4 Q B from H _ (fun x' W h1 h2 h3 h4 h5 => ⟨8 - (m + 1), by omega, m + 1, rfl, rfl, h2, by omega, h3, h4, h5, rfl⟩)
    intro B hB
    have eLU : b8g_leaves U = (b8g_leaves S) := fU.2.2.2.1
    unfold wp_X8_tellLeaf_15b
    rw [eLU]
    refine fx_lenAt o jX ei hi (fun r17 h17 => ⟨fun c => ?_, fun c => ?_⟩)
    · simp only [pn] at c
      have em : m = min (tC (b8g_leaves S) i + 1) ((b0g_lengths (b1g_owners (b8g_leaves S))) i).toInt.toNat := by rw [mL]; omega
      have eW : LTX (tC (b8g_leaves S)) (b0g_bytes (b1g_owners (b8g_leaves S))) (b0g_lengths (b1g_owners (b8g_leaves S))) (b1g_salt (b8g_leaves S)) (b1g_hashBits (b8g_leaves S)) (b1g_realBits (b8g_leaves S)) i = (HXS ((b0g_bytes (b1g_owners (b8g_leaves S))) i) m ++ LXE (tC (b8g_leaves S)) (b0g_lengths (b1g_owners (b8g_leaves S))) i) ++ (LXH (b0g_bytes (b1g_owners (b8g_leaves S))) (b0g_lengths (b1g_owners (b8g_leaves S))) (b1g_salt (b8g_leaves S)) (b1g_hashBits (b8g_leaves S)) i ++ LXR (tC (b8g_leaves S)) (b0g_bytes (b1g_owners (b8g_leaves S))) (b0g_lengths (b1g_owners (b8g_leaves S))) (b1g_realBits (b8g_leaves S)) i) := by
        rw [em, List.append_assoc]
        rfl
      refine fx_endAt o jX ei hi (fun r19 h19 => ⟨fun d => ?_, fun d => ?_⟩)
      · have e0 : LXE (tC (b8g_leaves S)) (b0g_lengths (b1g_owners (b8g_leaves S))) i = [] := if_neg (h19.mp d)
        rw [e0, List.append_nil] at eW
        exact step2 U _ jU fU su eW.symm
      · have e0 : LXE (tC (b8g_leaves S)) (b0g_lengths (b1g_owners (b8g_leaves S))) i = [36] := if_pos (Classical.byContradiction (fun y => d (h19.mpr y)))
        refine sf_X5_put (J8g_text jU) (fun u22 j22 _ s22 S23 e23 => ?_)
        have t23 : b8g_text S23 = u22 := by rw [e23]
        have r22 : SAY (b8g_text U) u22 [36] := s22 (by decide) (by decide)
        refine step2 S23 _ (by rw [e23]; exact J8s_text jU j22) (by rw [e23]; exact fU) ?_ eW.symm
        rw [t23, e0]
        exact SAY_tr su r22
    · simp only [pn] at c
      have x4' : x4 = nI m := nI_ofN (by omega)
      refine fx_octetAt (fun r24 h24 _ => sf_X5_putOctet (J8g_text jU) (fun u27 j27 _ s27 S28 e28 => ?_))
      have e24 := h24 (by omega) (by omega)
      have orr := OCT_rng ((b0g_bytes (b1g_owners (b8g_leaves S))) i) (i := x4) (by omega) (by omega)
      rw [← e24] at orr
      have r27 := s27 orr.1 orr.2
      rw [e24, x4'] at r27
      have t28 : b8g_text S28 = u27 := by rw [e28]
      refine hB _ S28 (by omega) ?_ (by rw [e28]; exact J8s_text jU j27) (by rw [e28]; exact fU) ?_
      · rw [pt_add (by rw [pl_1]; omega) (by rw [pl_1]; omega), pl_1, e4]
        omega
      · rw [t28]
        exact SAY_tr su r27
def F_X8_report (S u : bT8) : Prop := (b8g_now u) = (b8g_now S) ∧ (b8g_kept u) = (b8g_kept S) ∧ (b8g_isKept u) = (b8g_isKept S) ∧ (b8g_leaves u) = (b8g_leaves S) ∧ (b8g_tree u) = (b8g_tree S) ∧ (b8g_tuning u) = (b8g_tuning S) ∧ (b8g_trial u) = (b8g_trial S) ∧ (b8g_tape u) = (b8g_tape S) ∧ (b8g_chosenRow u) = (b8g_chosenRow S)
set_option maxRecDepth 20000 in
set_option maxHeartbeats 8000000 in
theorem sj_X8_report {S : bT8} (hJ : J8 S) {a1 : Int32} {Q : Int32 → (bT8) → Prop} (hq : ∀ (r : Int32) (u : bT8), (J8 u) → F_X8_report S u → Q r u) : wp_X8_report S a1 Q := by
  unfold wp_X8_report
  have hFS : F_X8_report S S := ⟨rfl, rfl, rfl, rfl, rfl, rfl, rfl, rfl, rfl⟩
  have jf1 := J5g_length (J8g_text hJ)
  have rga1 := pt_rg a1
  refine ⟨fun c1 => ?_, fun c1 => ?_⟩
  · try simp (disch := first | ((try simp (disch := first | ((try simp only [pn]) <;> omega) | fail) only [pn, pq]) <;> omega) | fail) only [pn, pq] at c1
    exact hq _ _ hJ hFS 
  · try simp (disch := first | ((try simp (disch := first | ((try simp only [pn]) <;> omega) | fail) only [pn, pq]) <;> omega) | fail) only [pn, pq] at c1
    refine sf_X1_count (J8g_leaves hJ) (fun r2 hr2_0 => ?_)
    have rgr2 := pt_rg r2
    try simp (disch := first | ((try simp (disch := first | ((try simp only [pn]) <;> omega) | fail) only [pn, pq]) <;> omega) | fail) only [pn, pq] at hr2_0
    refine ⟨fun c4 => ?_, fun c4 => ?_⟩
    · try simp (disch := first | ((try simp (disch := first | ((try simp only [pn]) <;> omega) | fail) only [pn, pq]) <;> omega) | fail) only [pn, pq] at c4
      intro S5 eS5
      have hJS5 : J8 S5 := by rw [eS5]; exact (J8s_text hJ (J5s_length (J8g_text hJ) ⟨(by (try simp (disch := first | ((try simp (disch := first | ((try simp only [pn]) <;> omega) | fail) only [pn, pq]) <;> omega) | fail) only [pn, pq]) <;> (intros; (try simp (disch := first | ((try simp (disch := first | ((try simp only [pn]) <;> omega) | fail) only [pn, pq]) <;> omega) | fail) only [pn, pq]) <;> omega)), (by (try simp (disch := first | ((try simp (disch := first | ((try simp only [pn]) <;> omega) | fail) only [pn, pq]) <;> omega) | fail) only [pn, pq]) <;> (intros; (try simp (disch := first | ((try simp (disch := first | ((try simp only [pn]) <;> omega) | fail) only [pn, pq]) <;> omega) | fail) only [pn, pq]) <;> omega))⟩))
      have hFS5 : F_X8_report S S5 := by rw [eS5]; exact hFS
      have je2 : ((b5g_length (b8g_text S5))).toInt = ((0 : Int32)).toInt := by rw [eS5]
      try simp (disch := first | ((try simp (disch := first | ((try simp only [pn]) <;> omega) | fail) only [pn, pq]) <;> omega) | fail) only [pn, pq] at je2
      have jf3 := J5g_length (J8g_text hJS5)
      refine ⟨fun c6 => ?_, fun c6 => ?_⟩
      · try simp (disch := first | ((try simp (disch := first | ((try simp only [pn]) <;> omega) | fail) only [pn, pq]) <;> omega) | fail) only [pn, pq] at c6
        refine sf_X8_tellLeaf hJS5 (fun u8 hJu8 hfu8 hr7_0 => ?_)
        have hFu8 : F_X8_report S u8 := ⟨(congrArg (fun z => z) hfu8.1).trans hFS5.1, (congrArg (fun z => z) hfu8.2.1).trans hFS5.2.1, (congrArg (fun z => z) hfu8.2.2.1).trans hFS5.2.2.1, (congrArg (fun z => z) hfu8.2.2.2.1).trans hFS5.2.2.2.1, (congrArg (fun z => z) hfu8.2.2.2.2.1).trans hFS5.2.2.2.2.1, (congrArg (fun z => z) hfu8.2.2.2.2.2.1).trans hFS5.2.2.2.2.2.1, (congrArg (fun z => z) hfu8.2.2.2.2.2.2.1).trans hFS5.2.2.2.2.2.2.1, (congrArg (fun z => z) hfu8.2.2.2.2.2.2.2.1).trans hFS5.2.2.2.2.2.2.2.1, (congrArg (fun z => z) hfu8.2.2.2.2.2.2.2.2).trans hFS5.2.2.2.2.2.2.2.2⟩
        have jf4 := J5g_length (J8g_text hJu8)
        exact hq _ _ hJu8 hFu8 
      · try simp (disch := first | ((try simp (disch := first | ((try simp only [pn]) <;> omega) | fail) only [pn, pq]) <;> omega) | fail) only [pn, pq] at c6
        refine sf_X8_tellFilter hJS5 (fun u10 hJu10 hfu10 hr9_0 => ?_)
        have hFu10 : F_X8_report S u10 := ⟨(congrArg (fun z => z) hfu10.1).trans hFS5.1, (congrArg (fun z => z) hfu10.2.1).trans hFS5.2.1, (congrArg (fun z => z) hfu10.2.2.1).trans hFS5.2.2.1, (congrArg (fun z => z) hfu10.2.2.2.1).trans hFS5.2.2.2.1, (congrArg (fun z => z) hfu10.2.2.2.2.1).trans hFS5.2.2.2.2.1, (congrArg (fun z => z) hfu10.2.2.2.2.2.1).trans hFS5.2.2.2.2.2.1, (congrArg (fun z => z) hfu10.2.2.2.2.2.2.1).trans hFS5.2.2.2.2.2.2.1, (congrArg (fun z => z) hfu10.2.2.2.2.2.2.2.1).trans hFS5.2.2.2.2.2.2.2.1, (congrArg (fun z => z) hfu10.2.2.2.2.2.2.2.2).trans hFS5.2.2.2.2.2.2.2.2⟩
        have jf5 := J5g_length (J8g_text hJu10)
        exact hq _ _ hJu10 hFu10 
    · try simp (disch := first | ((try simp (disch := first | ((try simp only [pn]) <;> omega) | fail) only [pn, pq]) <;> omega) | fail) only [pn, pq] at c4
      exact hq _ _ hJ hFS 
theorem sf_X8_report {S : bT8} (hJ : J8 S) {a1 : Int32} {Q : Int32 → (bT8) → Prop} (hq : ∀ (r : Int32) (u : bT8), (J8 u) → F_X8_report S u → (LVO (b8g_leaves S) → TRX (b8g_tree S) (b8g_leaves S) (b3g_values (b2g_built (b8g_now S)) 2) (b3g_values (b2g_built (b8g_now S)) 3) → (0 ≤ (b1g_hashBits (b8g_leaves S)).toInt ∧ (b1g_hashBits (b8g_leaves S)).toInt ≤ 8) → ∃ k lv : Nat, UPX (b8g_leaves S) (b3g_values (b2g_built (b8g_now S)) 2) (b3g_values (b2g_built (b8g_now S)) 3) k lv ∧ ((-1 ≤ a1.toInt ∧ a1.toInt < (b0g_count (b1g_owners (b8g_leaves S))).toInt) → TXL (b5g_signs (b8g_text u)) (b5g_length (b8g_text u)).toInt (RPV (tn (b8g_leaves S)) (tC (b8g_leaves S)) (tL (b8g_leaves S)) (tP (b8g_leaves S)) (b0g_bytes (b1g_owners (b8g_leaves S))) (b0g_lengths (b1g_owners (b8g_leaves S))) (b1g_salt (b8g_leaves S)) (b1g_hashBits (b8g_leaves S)) (b1g_realBits (b8g_leaves S)) k lv a1.toInt) ∧ r = b5g_length (b8g_text u)) ∧ (¬ (-1 ≤ a1.toInt ∧ a1.toInt < (b0g_count (b1g_owners (b8g_leaves S))).toInt) → r.toInt = -1 ∧ b8g_text u = b8g_text S)) → Q r u) : wp_X8_report S a1 Q := by
  by_cases hyp : LVO (b8g_leaves S) ∧ TRX (b8g_tree S) (b8g_leaves S) (b3g_values (b2g_built (b8g_now S)) 2) (b3g_values (b2g_built (b8g_now S)) 3)
  case neg => exact sj_X8_report hJ (fun r u j f => hq r u j f (fun a b => absurd ⟨a, b⟩ hyp))
  case pos =>
    have hyp2 := hyp
    obtain ⟨o, k, lv, t, _, hlv, h8, hu, hk, hU, hun, his⟩ := hyp2
    have jX := J8g_leaves hJ
    have lev : LEVS (tn (b8g_leaves S)) (tC (b8g_leaves S)) (tP (b8g_leaves S)) (lv : Int) 8 := by rw [← hlv]; exact t.2.2.2.1
    have up : UPX (b8g_leaves S) (b3g_values (b2g_built (b8g_now S)) 2) (b3g_values (b2g_built (b8g_now S)) 3) k lv := ⟨lev, h8, hk, hU⟩
    have hFS : F_X8_report S S := ⟨rfl, rfl, rfl, rfl, rfl, rfl, rfl, rfl, rfl⟩
    have out : ¬ (-1 ≤ a1.toInt ∧ a1.toInt < (b0g_count (b1g_owners (b8g_leaves S))).toInt) → Q (-1) S := fun z => hq _ S hJ hFS (fun _ _ _ => ⟨k, lv, up, fun y => absurd y z, fun _ => ⟨rfl, rfl⟩⟩)
    unfold wp_X8_report
    refine ⟨fun c => out (fun z => ?_), fun c => ?_⟩
    · simp only [pn] at c
      omega
    unfold wp_X1_count
    refine ⟨fun d S3 e3 => ?_, fun d => out (fun z => ?_)⟩
    · simp only [pn] at c d
      have j5 : J5 (b5s_length (b8g_text S) 0) := J5s_length (J8g_text hJ) ⟨by decide, by decide⟩
      have jS3 : J8 S3 := by rw [e3]; exact J8s_text hJ j5
      have fS3 : F_X8_report S S3 := by rw [e3]; exact hFS
      have t3 : b8g_text S3 = b5s_length (b8g_text S) 0 := by rw [e3]
      have eL : b8g_leaves S3 = (b8g_leaves S) := fS3.2.2.2.1
      have eT : b8g_tree S3 = (b8g_tree S) := fS3.2.2.2.2.1
      have eN : b8g_now S3 = b8g_now S := fS3.1
      have nil : TXL (b5g_signs (b8g_text S3)) (b5g_length (b8g_text S3)).toInt [] := by rw [t3]; exact TXL_nil _
      refine ⟨fun e => ?_, fun e => ?_⟩
      · have e0 : ¬ a1.toInt = -1 := fun z => e (Int32.toInt_inj.mp z)
        refine sf_X8_tellLeaf jS3 (fun u5 ju fu w => ?_)
        have fu' : F_X8_report S u5 := ⟨(fu.1).trans (fS3.1), (fu.2.1).trans (fS3.2.1), (fu.2.2.1).trans (fS3.2.2.1), (fu.2.2.2.1).trans (fS3.2.2.2.1), (fu.2.2.2.2.1).trans (fS3.2.2.2.2.1), (fu.2.2.2.2.2.1).trans (fS3.2.2.2.2.2.1), (fu.2.2.2.2.2.2.1).trans (fS3.2.2.2.2.2.2.1), (fu.2.2.2.2.2.2.2.1).trans (fS3.2.2.2.2.2.2.2.1), (fu.2.2.2.2.2.2.2.2).trans (fS3.2.2.2.2.2.2.2.2)⟩
        rw [eL] at w
        refine hq _ u5 ju fu' (fun _ _ hb => ⟨k, lv, up, fun z => ⟨?_, rfl⟩, fun z => absurd ⟨by omega, by omega⟩ z⟩)
        have w' := w o ⟨by omega, by omega⟩ hb
        have jl := J0g_lengths' o jX (i := a1.toInt.toNat) (by omega)
        have len := LTX_len (C := tC (b8g_leaves S)) (f := b0g_bytes (b1g_owners (b8g_leaves S))) (g := b0g_lengths (b1g_owners (b8g_leaves S))) (sa := b1g_salt (b8g_leaves S)) (hb := b1g_hashBits (b8g_leaves S)) (rb := b1g_realBits (b8g_leaves S)) (i := a1.toInt.toNat) jl o.2.2.2.2
        have x := w' [] nil (by show 0 + _ ≤ 128; omega)
        rw [List.nil_append] at x
        unfold RPV
        rw [if_neg e0]
        exact x
      · have e0 : a1.toInt = -1 := congrArg Int32.toInt e
        refine sf_X8_tellFilter jS3 (fun u7 ju fu w => ?_)
        have fu' : F_X8_report S u7 := ⟨(fu.1).trans (fS3.1), (fu.2.1).trans (fS3.2.1), (fu.2.2.1).trans (fS3.2.2.1), (fu.2.2.2.1).trans (fS3.2.2.2.1), (fu.2.2.2.2.1).trans (fS3.2.2.2.2.1), (fu.2.2.2.2.2.1).trans (fS3.2.2.2.2.2.1), (fu.2.2.2.2.2.2.1).trans (fS3.2.2.2.2.2.2.1), (fu.2.2.2.2.2.2.2.1).trans (fS3.2.2.2.2.2.2.2.1), (fu.2.2.2.2.2.2.2.2).trans (fS3.2.2.2.2.2.2.2.2)⟩
        rw [eL, eT, eN] at w
        obtain ⟨k2, lv2, up2, w'⟩ := w o hyp.2
        refine hq _ u7 ju fu' (fun _ _ _ => ⟨k2, lv2, up2, fun z => ⟨?_, rfl⟩, fun z => absurd ⟨by omega, by omega⟩ z⟩)
        have len := FTX_len (n := tn (b8g_leaves S)) (C := tC (b8g_leaves S)) (L := tL (b8g_leaves S)) (P := tP (b8g_leaves S)) (k := k2) lv2
        have l8 := up2.2.1
        have x := w' [] nil (by rw [List.length_append]; show 0 + (_ + 1) ≤ 128; omega)
        rw [List.nil_append] at x
        unfold RPV
        rw [if_pos e0]
        exact x
    · simp only [pn] at c d
      omega
theorem sf_X8_sign {S : bT8} (hJ : J8 S) {a1 : Int32} {Q : Int32 → Prop} (hq : ∀ r : Int32, (((0 ≤ a1.toInt ∧ a1.toInt < (b5g_length (b8g_text S)).toInt) → r = b5g_signs (b8g_text S) a1.toNatClampNeg) ∧ (¬ (0 ≤ a1.toInt ∧ a1.toInt < (b5g_length (b8g_text S)).toInt) → r.toInt = -1)) → Q r) : wp_X8_sign S a1 Q := by
  unfold wp_X8_sign
  exact sf_X5_signAt (J8g_text hJ) (fun r h => hq r h)
def F_X8_image (S u : bT8) : Prop := (b8g_tuning u) = (b8g_tuning S) ∧ (b8g_trial u) = (b8g_trial S) ∧ (b8g_tape u) = (b8g_tape S) ∧ (b8g_text u) = (b8g_text S) ∧ (b8g_chosenRow u) = (b8g_chosenRow S)
theorem sf_X8_image {S : bT8} (hJ : J8 S) {a1 : Int32} {Q : Int32 → (bT8) → Prop} (hq : ∀ (r : Int32) (u : bT8), (J8 u) → F_X8_image S u → bf_bool r → ((a1.toInt ≠ 0 ∧ r.toInt = 1 ∧ (b8g_isKept u).toInt = 1) ∨ (a1.toInt = 0 ∧ (b8g_isKept S).toInt = 0 ∧ r.toInt = 0 ∧ (b8g_isKept u).toInt = 0) ∨ (a1.toInt = 0 ∧ (b8g_isKept S).toInt ≠ 0 ∧ r.toInt = (b8g_isKept S).toInt ∧ (b8g_isKept u).toInt = (b8g_isKept S).toInt)) → (a1.toInt ≠ 0 → MEQ (b8g_kept u) (b8g_now S) ∧ b8g_now u = b8g_now S) → (a1.toInt = 0 → (b8g_isKept S).toInt = 0 → b8g_now u = b8g_now S ∧ b8g_kept u = b8g_kept S) → (a1.toInt = 0 → (b8g_isKept S).toInt ≠ 0 → MEQ (b8g_now u) (b8g_kept S) ∧ b8g_kept u = b8g_kept S) → (a1.toInt = 0 → (b8g_isKept S).toInt ≠ 0 → LVX (b8g_leaves u) (b2g_built (b8g_now u))) → (a1.toInt ≠ 0 ∨ (b8g_isKept S).toInt = 0 → b8g_leaves u = b8g_leaves S) → (a1.toInt = 0 → (b8g_isKept S).toInt ≠ 0 → LVO (b8g_leaves u) → 0 ≤ (b3g_values (b2g_built (b8g_now u)) 2).toInt → TRX (b8g_tree u) (b8g_leaves u) (b3g_values (b2g_built (b8g_now u)) 2) (b3g_values (b2g_built (b8g_now u)) 3)) → (a1.toInt ≠ 0 ∨ (b8g_isKept S).toInt = 0 → b8g_tree u = b8g_tree S) → Q r u) : wp_X8_image S a1 Q := by
  have hk := J8g_isKept hJ
  have z : ∀ {b : Int32}, b.toInt = 0 → b = 0 := fun h => Int32.toInt_inj.mp h
  unfold wp_X8_image
  refine ⟨fun c => ⟨fun d => ⟨hk, ?_⟩, fun d => ?_⟩, fun c => ?_⟩
  · have a0 : a1.toInt = 0 := by rw [c]; rfl
    have d0 : (b8g_isKept S).toInt = 0 := by rw [d]; rfl
    exact hq _ _ hJ ⟨rfl, rfl, rfl, rfl, rfl⟩ hk (Or.inr (Or.inl ⟨a0, d0, d0, d0⟩)) (fun h => absurd a0 h) (fun _ _ => ⟨rfl, rfl⟩) (fun _ h => absurd d0 h) (fun _ h => absurd d0 h) (fun _ => rfl) (fun _ h => absurd d0 h) (fun _ => rfl)
  · have a0 : a1.toInt = 0 := by rw [c]; rfl
    have d0 : (b8g_isKept S).toInt ≠ 0 := fun h => d (z h)
    refine sf_X2_copyFrom (S := ((b8g_now S), (b8g_kept S))) ⟨J8g_now hJ, J8g_kept hJ⟩ (fun u2 hJ2 hf2 qc dr qm => ?_)
    intro S3 e3
    have f2 : u2.2 = b8g_kept S := hf2
    have hJ3 : J8 S3 := by rw [e3]; exact J8s_kept (J8s_now hJ hJ2.1) hJ2.2
    refine sf_X8_rebuild hJ3 (fun u5 hJ5 hf5 _ x5 t5 => ?_)
    have n5 : b8g_now u5 = u2.1 := (hf5.1).trans (by rw [e3])
    have k5 : b8g_kept u5 = b8g_kept S := (hf5.2.1).trans (by rw [e3]; exact f2)
    have i5 : b8g_isKept u5 = b8g_isKept S := (hf5.2.2.1).trans (by rw [e3])
    have hF3 : F_X8_image S S3 := by rw [e3]; exact ⟨rfl, rfl, rfl, rfl, rfl⟩
    have hF5 : F_X8_image S u5 := ⟨(hf5.2.2.2.1).trans (hF3.1), (hf5.2.2.2.2.1).trans (hF3.2.1), (hf5.2.2.2.2.2.1).trans (hF3.2.2.1), (hf5.2.2.2.2.2.2.1).trans (hF3.2.2.2.1), (hf5.2.2.2.2.2.2.2).trans (hF3.2.2.2.2)⟩
    have q5 : b0g_count (b2g_questions (b8g_now u5)) = b0g_count (b2g_questions (b8g_kept S)) := by rw [n5]; exact qm.2.2.1.1
    have r5 : b2g_draws (b8g_now u5) = b2g_draws (b8g_kept S) := by rw [n5]; exact qm.2.2.2.2
    rw [i5]
    exact ⟨hk, hq _ _ hJ5 hF5 hk (Or.inr (Or.inr ⟨a0, d0, rfl, by rw [i5]⟩)) (fun h => absurd a0 h) (fun _ h => absurd h d0) (fun _ _ => ⟨by rw [n5]; exact qm, k5⟩) (fun _ _ => by rw [show b8g_now u5 = b8g_now S3 from hf5.1]; exact x5) (fun h => h.elim (fun g => absurd a0 g) (fun g => absurd g d0)) (fun _ _ => by rw [show b8g_now u5 = b8g_now S3 from hf5.1]; exact t5) (fun h => h.elim (fun g => absurd a0 g) (fun g => absurd g d0))⟩
  · have a0 : a1.toInt ≠ 0 := fun h => c (z h)
    refine sf_X2_copyFrom (S := ((b8g_kept S), (b8g_now S))) ⟨J8g_kept hJ, J8g_now hJ⟩ (fun u2 hJ2 hf2 qc dr qm => ?_)
    intro S3 e3 S4 e4
    have f2 : u2.2 = b8g_now S := hf2
    have n4 : b8g_now S4 = b8g_now S := by
      have : b8g_now S4 = u2.2 := by rw [e4, e3]
      rw [this, f2]
    have k4 : b8g_kept S4 = u2.1 := by rw [e4, e3]
    have i4 : b8g_isKept S4 = 1 := by rw [e4]
    have hJ3 : J8 S3 := by rw [e3]; exact J8s_now (J8s_kept hJ hJ2.1) hJ2.2
    have hJ4 : J8 S4 := by rw [e4]; exact J8s_isKept hJ3 rfl
    have q5 : b0g_count (b2g_questions (b8g_kept S4)) = b0g_count (b2g_questions (b8g_now S)) := by rw [k4]; exact qm.2.2.1.1
    have r5 : b2g_draws (b8g_kept S4) = b2g_draws (b8g_now S) := by rw [k4]; exact qm.2.2.2.2
    have hF4 : F_X8_image S S4 := by rw [e4, e3]; exact ⟨rfl, rfl, rfl, rfl, rfl⟩
    rw [i4]
    exact ⟨rfl, hq _ _ hJ4 hF4 rfl (Or.inl ⟨a0, rfl, by rw [i4]; rfl⟩) (fun _ => ⟨by rw [k4]; exact qm, n4⟩) (fun h => absurd h a0) (fun h => absurd h a0) (fun h => absurd h a0) (fun _ => by rw [e4, e3]) (fun h => absurd h a0) (fun _ => by rw [e4, e3])⟩
set_option maxRecDepth 20000 in
set_option maxHeartbeats 8000000 in
theorem sj_X8_look {S : bT8} (hJ : J8 S) {a1 : Int32} {Q : Int32 → Prop} (hq : ∀ r : Int32, Q r) : wp_X8_look S a1 Q := by
  unfold wp_X8_look
  have jf1 := J0g_count (J3g_members (J2g_told (J8g_now hJ)))
  have jf2 := J0g_count (J2g_questions (J8g_now hJ))
  have jf3 := J6g_levels (J8g_tree hJ)
  have jf4 := J6g_nodes (J8g_tree hJ)
  have jf5 := J4g_count (J8g_tape hJ)
  have rga1 := pt_rg a1
  refine ⟨fun c => ?_, fun c => ?_, fun c => ?_, fun c => ?_, fun c => ?_, fun c => ?_, fun c => ?_, fun c => ?_, fun c => ?_, fun c => ?_, fun c => ?_, fun c => ?_, fun c => ?_, fun c => ?_, fun c => ?_, fun c => ?_⟩
  · skip
    refine ⟨fun c1 => ?_, fun c1 => ?_⟩
    · try simp (disch := first | ((try simp (disch := first | ((try simp only [pn]) <;> omega) | fail) only [pn, pq]) <;> omega) | fail) only [pn, pq] at c1
      exact hq _ 
    · try simp (disch := first | ((try simp (disch := first | ((try simp only [pn]) <;> omega) | fail) only [pn, pq]) <;> omega) | fail) only [pn, pq] at c1
      refine ⟨fun c2 => ?_, fun c2 => ?_⟩
      · try simp (disch := first | ((try simp (disch := first | ((try simp only [pn]) <;> omega) | fail) only [pn, pq]) <;> omega) | fail) only [pn, pq] at c2
        exact hq _ 
      · try simp (disch := first | ((try simp (disch := first | ((try simp only [pn]) <;> omega) | fail) only [pn, pq]) <;> omega) | fail) only [pn, pq] at c2
        refine sf_X8_at (by decide) (fun r3 hr3_0 => ?_)
        have rgr3 := pt_rg r3
        try simp (disch := first | ((try simp (disch := first | ((try simp only [pn]) <;> omega) | fail) only [pn, pq]) <;> omega) | fail) only [pn, pq] at hr3_0
        exact hq _ 
  · skip
    exact hq _ 
  · skip
    exact hq _ 
  · skip
    exact hq _ 
  · skip
    refine sf_X1_count (J8g_leaves hJ) (fun r5 hr5_0 => ?_)
    have rgr5 := pt_rg r5
    try simp (disch := first | ((try simp (disch := first | ((try simp only [pn]) <;> omega) | fail) only [pn, pq]) <;> omega) | fail) only [pn, pq] at hr5_0
    exact hq _ 
  · skip
    exact hq _ 
  · skip
    exact hq _ 
  · skip
    exact hq _ 
  · skip
    exact hq _ 
  · skip
    refine sf_X6_items (J8g_tree hJ) (fun r7  => ?_)
    have rgr7 := pt_rg r7
    exact hq _ 
  · skip
    exact hq _ 
  · skip
    exact hq _ 
  · skip
    exact hq _ 
  · skip
    exact hq _ 
  · skip
    refine sf_X1_allEnded (J8g_leaves hJ) (fun r9  => ?_)
    have rgr9 := pt_rg r9
    exact hq _ 
  · skip
    refine sf_X1_allBytes (J8g_leaves hJ) (fun r11  => ?_)
    have rgr11 := pt_rg r11
    exact hq _ 
theorem sf_X8_look {S : bT8} (hJ : J8 S) {a1 : Int32} {Q : Int32 → Prop} (hq : ∀ r : Int32, (LVO (b8g_leaves S) → TRX (b8g_tree S) (b8g_leaves S) (b3g_values (b2g_built (b8g_now S)) 2) (b3g_values (b2g_built (b8g_now S)) 3) → ∃ k lv : Nat, UPX (b8g_leaves S) (b3g_values (b2g_built (b8g_now S)) 2) (b3g_values (b2g_built (b8g_now S)) 3) k lv ∧ LKV (b3g_values (b2g_told (b8g_now S))) (b3g_mode (b2g_told (b8g_now S))) (b2g_draws (b8g_now S)) (b0g_count (b3g_members (b2g_told (b8g_now S)))).toInt (b0g_count (b1g_owners (b8g_leaves S))).toInt (NB (tn (b8g_leaves S)) (tC (b8g_leaves S)) (tP (b8g_leaves S)) 512) lv k (NB (tn (b8g_leaves S)) (tC (b8g_leaves S)) (tP (b8g_leaves S)) (64 * k)) (EB (tn (b8g_leaves S)) (tC (b8g_leaves S)) (tP (b8g_leaves S)) 512 - EB (tn (b8g_leaves S)) (tC (b8g_leaves S)) (tP (b8g_leaves S)) (64 * k)) (b1g_hashBits (b8g_leaves S)) (b1g_realBits (b8g_leaves S)) (b0g_count (b2g_questions (b8g_now S))).toInt (b4g_count (b8g_tape S)).toInt (CTP (fun i => tC (b8g_leaves S) i = tL (b8g_leaves S) i) (tn (b8g_leaves S))) (SMB (fun i => min (min (tC (b8g_leaves S) i + 1) (tL (b8g_leaves S) i)) 8) (tn (b8g_leaves S))) a1 r) → Q r) : wp_X8_look S a1 Q := by
  by_cases hyp : LVO (b8g_leaves S) ∧ TRX (b8g_tree S) (b8g_leaves S) (b3g_values (b2g_built (b8g_now S)) 2) (b3g_values (b2g_built (b8g_now S)) 3)
  case neg => exact sj_X8_look hJ (fun r => hq r (fun a b => absurd ⟨a, b⟩ hyp))
  case pos =>
    obtain ⟨o, k, lv, t, pla, hlv, h8, hu, hk, hU, hun, his⟩ := hyp
    have G := tG o (J8g_leaves hJ)
    have g64 := G.1
    have lev : LEVS (tn (b8g_leaves S)) (tC (b8g_leaves S)) (tP (b8g_leaves S)) (lv : Int) 8 := by rw [← hlv]; exact t.2.2.2.1
    have n5 := NB_le G (l := 7) (i := 64) (by omega) (by omega)
    have nb5 : NB (tn (b8g_leaves S)) (tC (b8g_leaves S)) (tP (b8g_leaves S)) (64 * 7 + 64) = NB (tn (b8g_leaves S)) (tC (b8g_leaves S)) (tP (b8g_leaves S)) 512 := rfl
    have hm := t.1
    have e5 := EB_le G (w := 512) (by omega)
    have ek := EB_le G (w := 64 * k) (by omega)
    have emn := EB_mono (n := tn (b8g_leaves S)) (C := tC (b8g_leaves S)) (P := tP (b8g_leaves S)) (show 64 * k ≤ 512 by omega)
    have hed := t.2.2.2.2.2.2.1
    have up : UPX (b8g_leaves S) (b3g_values (b2g_built (b8g_now S)) 2) (b3g_values (b2g_built (b8g_now S)) 3) k lv := ⟨lev, h8, hk, hU⟩
    unfold wp_X8_look
    have fin : ∀ r : Int32, LKV (b3g_values (b2g_told (b8g_now S))) (b3g_mode (b2g_told (b8g_now S))) (b2g_draws (b8g_now S)) (b0g_count (b3g_members (b2g_told (b8g_now S)))).toInt (b0g_count (b1g_owners (b8g_leaves S))).toInt (NB (tn (b8g_leaves S)) (tC (b8g_leaves S)) (tP (b8g_leaves S)) 512) lv k (NB (tn (b8g_leaves S)) (tC (b8g_leaves S)) (tP (b8g_leaves S)) (64 * k)) (EB (tn (b8g_leaves S)) (tC (b8g_leaves S)) (tP (b8g_leaves S)) 512 - EB (tn (b8g_leaves S)) (tC (b8g_leaves S)) (tP (b8g_leaves S)) (64 * k)) (b1g_hashBits (b8g_leaves S)) (b1g_realBits (b8g_leaves S)) (b0g_count (b2g_questions (b8g_now S))).toInt (b4g_count (b8g_tape S)).toInt (CTP (fun i => tC (b8g_leaves S) i = tL (b8g_leaves S) i) (tn (b8g_leaves S))) (SMB (fun i => min (min (tC (b8g_leaves S) i + 1) (tL (b8g_leaves S) i)) 8) (tn (b8g_leaves S))) a1 r → Q r := fun r b => hq r (fun _ _ => ⟨k, lv, up, b⟩)
    have hit : (b6g_edges (b8g_tree S) - b6g_itemStart (b8g_tree S)).toInt = EB (tn (b8g_leaves S)) (tC (b8g_leaves S)) (tP (b8g_leaves S)) 512 - EB (tn (b8g_leaves S)) (tC (b8g_leaves S)) (tP (b8g_leaves S)) (64 * k) := by rw [pt_sub (by omega) (by omega), hed, his]
    unfold wp_X1_count wp_X6_items
    refine ⟨fun c => ⟨fun c1 => fin _ ⟨?_, ?_, ?_, ?_, ?_, ?_, ?_, ?_, ?_, ?_, ?_, ?_, ?_, ?_, ?_, ?_, fun _ => rfl⟩, fun c1 => ⟨fun c2 => fin _ ⟨?_, ?_, ?_, ?_, ?_, ?_, ?_, ?_, ?_, ?_, ?_, ?_, ?_, ?_, ?_, ?_, fun _ => rfl⟩, fun c2 => ?_⟩⟩, fun c => fin _ ⟨?_, fun _ => rfl, ?_, ?_, ?_, ?_, ?_, ?_, ?_, ?_, ?_, ?_, ?_, ?_, ?_, ?_, ?_⟩, fun c => fin _ ⟨?_, ?_, fun _ => rfl, ?_, ?_, ?_, ?_, ?_, ?_, ?_, ?_, ?_, ?_, ?_, ?_, ?_, ?_⟩, fun c => fin _ ⟨?_, ?_, ?_, fun _ => rfl, ?_, ?_, ?_, ?_, ?_, ?_, ?_, ?_, ?_, ?_, ?_, ?_, ?_⟩, fun c => fin _ ⟨?_, ?_, ?_, ?_, fun _ => rfl, ?_, ?_, ?_, ?_, ?_, ?_, ?_, ?_, ?_, ?_, ?_, ?_⟩, fun c => fin _ ⟨?_, ?_, ?_, ?_, ?_, fun _ => hm, ?_, ?_, ?_, ?_, ?_, ?_, ?_, ?_, ?_, ?_, ?_⟩, fun c => fin _ ⟨?_, ?_, ?_, ?_, ?_, ?_, fun _ => hlv, ?_, ?_, ?_, ?_, ?_, ?_, ?_, ?_, ?_, ?_⟩, fun c => fin _ ⟨?_, ?_, ?_, ?_, ?_, ?_, ?_, fun _ => hu, ?_, ?_, ?_, ?_, ?_, ?_, ?_, ?_, ?_⟩, fun c => fin _ ⟨?_, ?_, ?_, ?_, ?_, ?_, ?_, ?_, fun _ => hun, ?_, ?_, ?_, ?_, ?_, ?_, ?_, ?_⟩, fun c => fin _ ⟨?_, ?_, ?_, ?_, ?_, ?_, ?_, ?_, ?_, fun _ => hit, ?_, ?_, ?_, ?_, ?_, ?_, ?_⟩, fun c => fin _ ⟨?_, ?_, ?_, ?_, ?_, ?_, ?_, ?_, ?_, ?_, fun _ => rfl, ?_, ?_, ?_, ?_, ?_, ?_⟩, fun c => fin _ ⟨?_, ?_, ?_, ?_, ?_, ?_, ?_, ?_, ?_, ?_, ?_, fun _ => rfl, ?_, ?_, ?_, ?_, ?_⟩, fun c => fin _ ⟨?_, ?_, ?_, ?_, ?_, ?_, ?_, ?_, ?_, ?_, ?_, ?_, fun _ => rfl, ?_, ?_, ?_, ?_⟩, fun c => fin _ ⟨?_, ?_, ?_, ?_, ?_, ?_, ?_, ?_, ?_, ?_, ?_, ?_, ?_, fun _ => rfl, ?_, ?_, ?_⟩, fun c => fx_allEnded o (J8g_leaves hJ) (fun r hr => fin r ⟨?_, ?_, ?_, ?_, ?_, ?_, ?_, ?_, ?_, ?_, ?_, ?_, ?_, ?_, fun _ => hr, ?_, ?_⟩), fun c => fx_allBytes o (J8g_leaves hJ) (fun r hr => fin r ⟨?_, ?_, ?_, ?_, ?_, ?_, ?_, ?_, ?_, ?_, ?_, ?_, ?_, ?_, ?_, fun _ => hr, ?_⟩)⟩
    all_goals first | (simp only [pn] at c1; intro z; exfalso; omega) | (simp only [pn] at c1 c2; intro z; exfalso; omega) | (intro z; rw [c] at z; exact absurd z (by decide)) | (intro z; exfalso; have ce := congrArg Int32.toInt c; simp only [pn] at ce; omega) | (intro z; exfalso; omega) | skip
    simp only [pn] at c1 c2
    refine fx_atN (m := a1.toInt.toNat) (by decide) (by omega) (by omega) (fin _ ⟨fun _ => rfl, ?_, ?_, ?_, ?_, ?_, ?_, ?_, ?_, ?_, ?_, ?_, ?_, ?_, ?_, ?_, ?_⟩)
    all_goals (intro z; exfalso; omega)
