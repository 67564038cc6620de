def ub (x : Int64) : Nat := x.toBitVec.toNat
def PX (x t : Nat) : Nat := x / 2 ^ (64 - 8 * t)
def ALK (x y : Nat) : Nat → Nat
  | 0 => 0
  | q + 1 => if PX x (q + 1) = PX y (q + 1) then q + 1 else ALK x y q
def ALR (f : Nat → Int64) (g : Nat → Int32) (i j : Nat) : Nat := ALK (ub (f i)) (ub (f j)) (min (g i).toInt (g j).toInt).toNat
def COM (f : Nat → Int64) (g : Nat → Int32) (c : Int) (i : Nat) : Nat := max (if i = 0 then 0 else ALR f g i (i - 1)) (if ((i + 1 : Nat) : Int) < c then ALR f g i (i + 1) else 0)
def BEG (f : Nat → Int64) (g : Nat → Int32) (c : Int) (i : Nat) : Nat := min (COM f g c i + 1) (g i).toInt.toNat
theorem up_n {f : Nat → Int32} {i j : Nat} {x : Int32} (h : j ≠ i) : upd f i x j = f j := by
  unfold upd
  rw [if_neg h]
theorem ALR_agr {f f2 : Nat → Int64} {g g2 : Nat → Int32} {i j : Nat} (e1 : f2 i = f i ∧ g2 i = g i) (e2 : f2 j = f j ∧ g2 j = g j) : ALR f2 g2 i j = ALR f g i j := by
  unfold ALR
  rw [e1.1, e1.2, e2.1, e2.2]
theorem COM_agr {f f2 : Nat → Int64} {g g2 : Nat → Int32} {c : Int} (e : ∀ j : Nat, (j : Int) < c → f2 j = f j ∧ g2 j = g j) {i : Nat} (hi : (i : Int) < c) : COM f2 g2 c i = COM f g c i := by
  have a : (if i = 0 then 0 else ALR f2 g2 i (i - 1)) = (if i = 0 then 0 else ALR f g i (i - 1)) := by
    by_cases h : i = 0
    · rw [if_pos h, if_pos h]
    · rw [if_neg h, if_neg h, ALR_agr (e i hi) (e (i - 1) (by omega))]
  have b : (if ((i + 1 : Nat) : Int) < c then ALR f2 g2 i (i + 1) else 0) = (if ((i + 1 : Nat) : Int) < c then ALR f g i (i + 1) else 0) := by
    by_cases h : ((i + 1 : Nat) : Int) < c
    · rw [if_pos h, if_pos h, ALR_agr (e i hi) (e (i + 1) h)]
    · rw [if_neg h, if_neg h]
  unfold COM
  rw [a, b]
theorem BEG_agr {f f2 : Nat → Int64} {g g2 : Nat → Int32} {c : Int} (e : ∀ j : Nat, (j : Int) < c → f2 j = f j ∧ g2 j = g j) {i : Nat} (hi : (i : Int) < c) : BEG f2 g2 c i = BEG f g c i := by
  unfold BEG
  rw [COM_agr e hi, (e i hi).2]
def LD (il : Int32) (cm bg : Nat → Int32) (ks : Nat → Int64) (ls : Nat → Int32) (n9 : Int32) : Prop := il.toInt ≠ 0 → ∀ i : Nat, (i : Int) < n9.toInt → (cm i).toInt = (COM (fun j => ks (64 + j)) (fun j => ls (64 + j)) n9.toInt i : Nat) ∧ (bg i).toInt = (BEG (fun j => ks (64 + j)) (fun j => ls (64 + j)) n9.toInt i : Nat)
theorem LD_rows {il n9 : Int32} {cm bg : Nat → Int32} {ks ks2 : Nat → Int64} {ls ls2 : Nat → Int32} (hn : n9.toInt ≤ 64) (h : LD il cm bg ks ls n9) (e : ∀ j : Nat, j < 64 → ks2 (64 + j) = ks (64 + j) ∧ ls2 (64 + j) = ls (64 + j)) : LD il cm bg ks2 ls2 n9 := by
  intro hi i hlt
  have a : ∀ j : Nat, (j : Int) < n9.toInt → (fun j => ks2 (64 + j)) j = (fun j => ks (64 + j)) j ∧ (fun j => ls2 (64 + j)) j = (fun j => ls (64 + j)) j := fun j hj => e j (by omega)
  rw [COM_agr a hlt, BEG_agr a hlt]
  exact h hi i hlt
theorem LD_0 {il n9 : Int32} {cm bg : Nat → Int32} {ks : Nat → Int64} {ls : Nat → Int32} (h : il.toInt = 0) : LD il cm bg ks ls n9 := fun hi => absurd h hi
