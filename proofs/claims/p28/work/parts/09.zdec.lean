/-! Decode rows of a long code by one walk along its bytes. -/
theorem bf_u1_of {cc : ByteArray} {p : Nat} {b : UInt8} {r : List UInt8} (h : cc.data.toList.drop p = b :: r) : (Jvm.ClassFile.Reader.u1 : Jvm.ClassFile.Decoder Nat) cc p = .ok (b.toNat, p + 1) := by
  have hl : p < cc.data.toList.length := by
    have h1 : (cc.data.toList.drop p).length = r.length + 1 := by rw [h]; rfl
    rw [List.length_drop] at h1
    omega
  have hl' : p < cc.size := hl
  have hg : cc[p]'hl' = b := by
    have h1 : cc.data.toList[p]? = some b := by rw [← List.head?_drop, h]; rfl
    have h2 : cc.data.toList[p]'hl = b := by rw [List.getElem?_eq_getElem hl] at h1; exact Option.some.inj h1
    exact h2
  have e : (Jvm.ClassFile.Reader.u1 : Jvm.ClassFile.Decoder Nat) cc p = (if h : p < cc.size then (do set (p + 1); pure cc[p].toNat : Jvm.ClassFile.Decoder Nat) else throw (Jvm.ClassFile.HasTruncated.truncated p)) cc p := rfl
  rw [e, dif_pos hl', hg]; rfl
theorem bf_dc {cc : ByteArray} {p q : Nat} {i : Instr} (h : (Jvm.ClassFile.Decoder.instr p) cc p = .ok (i, q)) : decode cc p = .ok (i, q - p) := by
  unfold decode
  have h1 : (Jvm.ClassFile.Decoder.instr p).runAt cc p = .ok (i, q) := h
  rw [h1]; rfl
theorem bf_dtail {l r : List UInt8} {p : Nat} {b : UInt8} (h : l.drop p = b :: r) : l.drop (p + 1) = r := by
  rw [← List.drop_drop, h]; rfl
def bf_o1 : Nat → Option Instr
  | 1 => some .aconst_null
  | 2 => some (.iconst (-1))
  | 3 => some (.iconst 0)
  | 4 => some (.iconst 1)
  | 5 => some (.iconst 2)
  | 6 => some (.iconst 3)
  | 7 => some (.iconst 4)
  | 8 => some (.iconst 5)
  | 9 => some (.lconst 0)
  | 10 => some (.lconst 1)
  | 26 => some (.iload_n 0)
  | 27 => some (.iload_n 1)
  | 28 => some (.iload_n 2)
  | 29 => some (.iload_n 3)
  | 30 => some (.lload_n 0)
  | 31 => some (.lload_n 1)
  | 32 => some (.lload_n 2)
  | 33 => some (.lload_n 3)
  | 42 => some (.aload_n 0)
  | 43 => some (.aload_n 1)
  | 44 => some (.aload_n 2)
  | 45 => some (.aload_n 3)
  | 46 => some .iaload
  | 47 => some .laload
  | 52 => some .caload
  | 59 => some (.istore_n 0)
  | 60 => some (.istore_n 1)
  | 61 => some (.istore_n 2)
  | 62 => some (.istore_n 3)
  | 63 => some (.lstore_n 0)
  | 64 => some (.lstore_n 1)
  | 65 => some (.lstore_n 2)
  | 66 => some (.lstore_n 3)
  | 79 => some .iastore
  | 80 => some .lastore
  | 87 => some .pop
  | 88 => some .pop2
  | 89 => some .dup
  | 92 => some .dup2
  | 96 => some .iadd
  | 97 => some .ladd
  | 100 => some .isub
  | 101 => some .lsub
  | 104 => some .imul
  | 108 => some .idiv
  | 112 => some .irem
  | 120 => some .ishl
  | 121 => some .lshl
  | 122 => some .ishr
  | 124 => some .iushr
  | 125 => some .lushr
  | 126 => some .iand
  | 127 => some .land
  | 128 => some .ior
  | 129 => some .lor
  | 130 => some .ixor
  | 131 => some .lxor
  | 133 => some .i2l
  | 136 => some .l2i
  | 146 => some .i2c
  | 148 => some .lcmp
  | 172 => some .ireturn
  | 173 => some .lreturn
  | 176 => some .areturn
  | 177 => some .return_
  | 190 => some .arraylength
  | 191 => some .athrow
  | _ => none
def bf_o2u : Nat → Option (Nat → Instr)
  | 18 => some .ldc
  | 21 => some .iload
  | 22 => some .lload
  | 25 => some .aload
  | 54 => some .istore
  | 55 => some .lstore
  | 58 => some .astore
  | _ => none
def bf_o3u : Nat → Option (Nat → Instr)
  | 19 => some .ldc_w
  | 20 => some .ldc2_w
  | 178 => some .getstatic
  | 179 => some .putstatic
  | 180 => some .getfield
  | 181 => some .putfield
  | 182 => some .invokevirtual
  | 183 => some .invokespecial
  | 184 => some .invokestatic
  | 187 => some .new
  | 192 => some .checkcast
  | _ => none
def bf_o3s : Nat → Option (Int → Instr)
  | 17 => some .sipush
  | 153 => some (.ifCond .eq)
  | 154 => some (.ifCond .ne)
  | 155 => some (.ifCond .lt)
  | 156 => some (.ifCond .ge)
  | 157 => some (.ifCond .gt)
  | 158 => some (.ifCond .le)
  | 159 => some (.if_icmp .eq)
  | 160 => some (.if_icmp .ne)
  | 161 => some (.if_icmp .lt)
  | 162 => some (.if_icmp .ge)
  | 163 => some (.if_icmp .gt)
  | 164 => some (.if_icmp .le)
  | 167 => some .goto
  | _ => none
theorem bf_u2_of {cc : ByteArray} {p : Nat} {b c : UInt8} {r : List UInt8} (h : cc.data.toList.drop p = b :: c :: r) : (Jvm.ClassFile.Reader.u2 : Jvm.ClassFile.Decoder Nat) cc p = .ok (b.toNat * 256 + c.toNat, p + 2) := by
  have h1 := bf_u1_of h
  have h2 := bf_u1_of (bf_dtail h)
  have e : (Jvm.ClassFile.Reader.u2 : Jvm.ClassFile.Decoder Nat) cc p = Except.bind ((Jvm.ClassFile.Reader.u1 : Jvm.ClassFile.Decoder Nat) cc p) (fun q => Except.bind ((Jvm.ClassFile.Reader.u1 : Jvm.ClassFile.Decoder Nat) cc q.2) (fun q2 => .ok (q.1 * 256 + q2.1, q2.2))) := rfl
  rw [e, h1]
  show Except.bind ((Jvm.ClassFile.Reader.u1 : Jvm.ClassFile.Decoder Nat) cc (p + 1)) _ = _
  rw [h2]; rfl
theorem bf_e1 {cc : ByteArray} {p n : Nat} (hu : (Jvm.ClassFile.Reader.u1 : Jvm.ClassFile.Decoder Nat) cc p = .ok (n, p + 1)) (F : Nat → Jvm.ClassFile.Decoder Instr) : ((Jvm.ClassFile.Reader.u1 : Jvm.ClassFile.Decoder Nat) >>= F) cc p = F n cc (p + 1) := by
  show Except.bind ((Jvm.ClassFile.Reader.u1 : Jvm.ClassFile.Decoder Nat) cc p) (fun q => F q.1 cc q.2) = _
  rw [hu]; rfl
theorem bf_e2 {cc : ByteArray} {p n m : Nat} (hu : (Jvm.ClassFile.Reader.u1 : Jvm.ClassFile.Decoder Nat) cc p = .ok (n, p + 1)) (hv : (Jvm.ClassFile.Reader.u1 : Jvm.ClassFile.Decoder Nat) cc (p + 1) = .ok (m, p + 2)) (G : Nat → Instr) : ((do pure (G (← Jvm.ClassFile.Reader.u1)) : Jvm.ClassFile.Decoder Instr)) cc (p + 1) = .ok (G m, p + 2) := by
  show Except.bind ((Jvm.ClassFile.Reader.u1 : Jvm.ClassFile.Decoder Nat) cc (p + 1)) (fun q => .ok (G q.1, q.2)) = _
  rw [hv]; rfl
theorem bf_e2s {cc : ByteArray} {p n m : Nat} (hu : (Jvm.ClassFile.Reader.u1 : Jvm.ClassFile.Decoder Nat) cc p = .ok (n, p + 1)) (hv : (Jvm.ClassFile.Reader.u1 : Jvm.ClassFile.Decoder Nat) cc (p + 1) = .ok (m, p + 2)) (G : Int → Instr) : ((do pure (G (← Jvm.ClassFile.Reader.s1)) : Jvm.ClassFile.Decoder Instr)) cc (p + 1) = .ok (G (Jvm.ClassFile.Reader.signed 8 m), p + 2) := by
  show Except.bind (Except.bind ((Jvm.ClassFile.Reader.u1 : Jvm.ClassFile.Decoder Nat) cc (p + 1)) (fun q => .ok (Jvm.ClassFile.Reader.signed 8 q.1, q.2))) (fun q => .ok (G q.1, q.2)) = _
  rw [hv]; rfl
theorem bf_e3 {cc : ByteArray} {p n m : Nat} (hu : (Jvm.ClassFile.Reader.u1 : Jvm.ClassFile.Decoder Nat) cc p = .ok (n, p + 1)) (hv : (Jvm.ClassFile.Reader.u2 : Jvm.ClassFile.Decoder Nat) cc (p + 1) = .ok (m, p + 3)) (G : Nat → Instr) : ((do pure (G (← Jvm.ClassFile.Reader.u2)) : Jvm.ClassFile.Decoder Instr)) cc (p + 1) = .ok (G m, p + 3) := by
  show Except.bind ((Jvm.ClassFile.Reader.u2 : Jvm.ClassFile.Decoder Nat) cc (p + 1)) (fun q => .ok (G q.1, q.2)) = _
  rw [hv]; rfl
theorem bf_e3s {cc : ByteArray} {p n m : Nat} (hu : (Jvm.ClassFile.Reader.u1 : Jvm.ClassFile.Decoder Nat) cc p = .ok (n, p + 1)) (hv : (Jvm.ClassFile.Reader.u2 : Jvm.ClassFile.Decoder Nat) cc (p + 1) = .ok (m, p + 3)) (G : Int → Instr) : ((do pure (G (← Jvm.ClassFile.Reader.s2)) : Jvm.ClassFile.Decoder Instr)) cc (p + 1) = .ok (G (Jvm.ClassFile.Reader.signed 16 m), p + 3) := by
  show Except.bind (Except.bind ((Jvm.ClassFile.Reader.u2 : Jvm.ClassFile.Decoder Nat) cc (p + 1)) (fun q => .ok (Jvm.ClassFile.Reader.signed 16 q.1, q.2))) (fun q => .ok (G q.1, q.2)) = _
  rw [hv]; rfl
theorem bf_e3i {cc : ByteArray} {p n a b : Nat} (hu : (Jvm.ClassFile.Reader.u1 : Jvm.ClassFile.Decoder Nat) cc p = .ok (n, p + 1)) (hv : (Jvm.ClassFile.Reader.u1 : Jvm.ClassFile.Decoder Nat) cc (p + 1) = .ok (a, p + 2)) (hw : (Jvm.ClassFile.Reader.u1 : Jvm.ClassFile.Decoder Nat) cc (p + 2) = .ok (b, p + 3)) (G : Nat → Int → Instr) : ((do pure (G (← Jvm.ClassFile.Reader.u1) (← Jvm.ClassFile.Reader.s1)) : Jvm.ClassFile.Decoder Instr)) cc (p + 1) = .ok (G a (Jvm.ClassFile.Reader.signed 8 b), p + 3) := by
  show Except.bind ((Jvm.ClassFile.Reader.u1 : Jvm.ClassFile.Decoder Nat) cc (p + 1)) (fun q => Except.bind (Except.bind ((Jvm.ClassFile.Reader.u1 : Jvm.ClassFile.Decoder Nat) cc q.2) (fun q2 => .ok (Jvm.ClassFile.Reader.signed 8 q2.1, q2.2))) (fun q2 => .ok (G q.1 q2.1, q2.2))) = _
  rw [hv]
  show Except.bind (Except.bind ((Jvm.ClassFile.Reader.u1 : Jvm.ClassFile.Decoder Nat) cc (p + 2)) _) _ = _
  rw [hw]; rfl
theorem bf_o1_ok {cc : ByteArray} {p n : Nat} {i : Instr} (h : bf_o1 n = some i) (hu : (Jvm.ClassFile.Reader.u1 : Jvm.ClassFile.Decoder Nat) cc p = .ok (n, p + 1)) : (Jvm.ClassFile.Decoder.instr p) cc p = .ok (i, p + 1) := by
  unfold Jvm.ClassFile.Decoder.instr
  refine (bf_e1 hu _).trans ?_
  unfold bf_o1 at h
  split at h <;> first | (cases h; rfl) | cases h
theorem bf_o2u_ok {cc : ByteArray} {p n m : Nat} {g : Nat → Instr} (h : bf_o2u n = some g) (hu : (Jvm.ClassFile.Reader.u1 : Jvm.ClassFile.Decoder Nat) cc p = .ok (n, p + 1)) (hv : (Jvm.ClassFile.Reader.u1 : Jvm.ClassFile.Decoder Nat) cc (p + 1) = .ok (m, p + 2)) : (Jvm.ClassFile.Decoder.instr p) cc p = .ok (g (m), p + 2) := by
  unfold Jvm.ClassFile.Decoder.instr
  refine (bf_e1 hu _).trans ?_
  unfold bf_o2u at h
  split at h <;> first | (cases h; exact bf_e2 hu hv _) | cases h
theorem bf_o3u_ok {cc : ByteArray} {p n m : Nat} {g : Nat → Instr} (h : bf_o3u n = some g) (hu : (Jvm.ClassFile.Reader.u1 : Jvm.ClassFile.Decoder Nat) cc p = .ok (n, p + 1)) (hv : (Jvm.ClassFile.Reader.u2 : Jvm.ClassFile.Decoder Nat) cc (p + 1) = .ok (m, p + 3)) : (Jvm.ClassFile.Decoder.instr p) cc p = .ok (g (m), p + 3) := by
  unfold Jvm.ClassFile.Decoder.instr
  refine (bf_e1 hu _).trans ?_
  unfold bf_o3u at h
  split at h <;> first | (cases h; exact bf_e3 hu hv _) | cases h
theorem bf_o3s_ok {cc : ByteArray} {p n m : Nat} {g : Int → Instr} (h : bf_o3s n = some g) (hu : (Jvm.ClassFile.Reader.u1 : Jvm.ClassFile.Decoder Nat) cc p = .ok (n, p + 1)) (hv : (Jvm.ClassFile.Reader.u2 : Jvm.ClassFile.Decoder Nat) cc (p + 1) = .ok (m, p + 3)) : (Jvm.ClassFile.Decoder.instr p) cc p = .ok (g (Jvm.ClassFile.Reader.signed 16 m), p + 3) := by
  unfold Jvm.ClassFile.Decoder.instr
  refine (bf_e1 hu _).trans ?_
  unfold bf_o3s at h
  split at h <;> first | (cases h; exact bf_e3s hu hv _) | cases h
theorem bf_o16_ok {cc : ByteArray} {p m : Nat} (hu : (Jvm.ClassFile.Reader.u1 : Jvm.ClassFile.Decoder Nat) cc p = .ok (16, p + 1)) (hv : (Jvm.ClassFile.Reader.u1 : Jvm.ClassFile.Decoder Nat) cc (p + 1) = .ok (m, p + 2)) : (Jvm.ClassFile.Decoder.instr p) cc p = .ok (.bipush (Jvm.ClassFile.Reader.signed 8 m), p + 2) := by
  unfold Jvm.ClassFile.Decoder.instr
  exact (bf_e1 hu _).trans (bf_e2s hu hv _)
theorem bf_o132_ok {cc : ByteArray} {p a b : Nat} (hu : (Jvm.ClassFile.Reader.u1 : Jvm.ClassFile.Decoder Nat) cc p = .ok (132, p + 1)) (hv : (Jvm.ClassFile.Reader.u1 : Jvm.ClassFile.Decoder Nat) cc (p + 1) = .ok (a, p + 2)) (hw : (Jvm.ClassFile.Reader.u1 : Jvm.ClassFile.Decoder Nat) cc (p + 2) = .ok (b, p + 3)) : (Jvm.ClassFile.Decoder.instr p) cc p = .ok (.iinc a (Jvm.ClassFile.Reader.signed 8 b), p + 3) := by
  unfold Jvm.ClassFile.Decoder.instr
  exact (bf_e1 hu _).trans (bf_e3i hu hv hw _)
def bf_m1 (l : List UInt8) (i : Instr) : Nat → Bool
  | 1 => match l with
    | a :: _ => decide (bf_o1 a.toNat = some i)
    | _ => false
  | 2 => match l with
    | a :: b :: _ => (match bf_o2u a.toNat with
      | some g => decide (g b.toNat = i)
      | none => Nat.beq a.toNat 16 && decide (Instr.bipush (Jvm.ClassFile.Reader.signed 8 b.toNat) = i))
    | _ => false
  | 3 => match l with
    | a :: b :: c :: _ => (match bf_o3s a.toNat with
      | some g => decide (g (Jvm.ClassFile.Reader.signed 16 (b.toNat * 256 + c.toNat)) = i)
      | none => match bf_o3u a.toNat with
        | some g => decide (g (b.toNat * 256 + c.toNat) = i)
        | none => Nat.beq a.toNat 132 && decide (Instr.iinc b.toNat (Jvm.ClassFile.Reader.signed 8 c.toNat) = i))
    | _ => false
  | _ => false
theorem bf_fin {cc : ByteArray} {p n : Nat} {i : Instr} (h : (Jvm.ClassFile.Decoder.instr p) cc p = .ok (i, p + n)) : decode cc p = .ok (i, n) := by
  rw [bf_dc h]; congr 2; omega
theorem bf_m1_ok {cc : ByteArray} {l : List UInt8} {p n : Nat} {i : Instr} (hl : cc.data.toList.drop p = l) (h : bf_m1 l i n = true) : decode cc p = .ok (i, n) := by
  unfold bf_m1 at h
  split at h
  · split at h
    · exact bf_fin (bf_o1_ok (of_decide_eq_true h) (bf_u1_of hl))
    · cases h
  · split at h
    · have hu := bf_u1_of hl
      have hv := bf_u1_of (bf_dtail hl)
      split at h
      · next g hg => exact of_decide_eq_true h ▸ bf_fin (bf_o2u_ok hg hu hv)
      · rw [Bool.and_eq_true] at h
        rw [Nat.eq_of_beq_eq_true h.1] at hu
        exact of_decide_eq_true h.2 ▸ bf_fin (bf_o16_ok hu hv)
    · cases h
  · split at h
    · have hu := bf_u1_of hl
      have hv := bf_u2_of (bf_dtail hl)
      split at h
      · next g hg => exact of_decide_eq_true h ▸ bf_fin (bf_o3s_ok hg hu hv)
      · split at h
        · next g hg => exact of_decide_eq_true h ▸ bf_fin (bf_o3u_ok hg hu hv)
        · rw [Bool.and_eq_true] at h
          rw [Nat.eq_of_beq_eq_true h.1] at hu
          exact of_decide_eq_true h.2 ▸ bf_fin (bf_o132_ok hu (bf_u1_of (bf_dtail hl)) (bf_u1_of (bf_dtail (bf_dtail hl))))
    · cases h
  · cases h
def bf_wk (cc : ByteArray) : List UInt8 → Nat → List (Nat × Instr × Nat × Nat) → Bool
  | _, _, [] => true
  | l, p, (q, i, n, q2) :: L => Nat.beq p q && (Nat.beq (p + n) q2 && ((bf_m1 l i n || decide (decode cc q = .ok (i, n))) && bf_wk cc (l.drop n) (p + n) L))
theorem bf_wk_ok {cc : ByteArray} : ∀ (L : List (Nat × Instr × Nat × Nat)) (l : List UInt8) (p : Nat), cc.data.toList.drop p = l → bf_wk cc l p L = true → bf_ok cc L = true
  | [], _, _, _, _ => rfl
  | (q, i, n, q2) :: L, l, p, hl, h => by
    simp only [bf_wk, Bool.and_eq_true, Bool.or_eq_true, decide_eq_true_eq] at h
    obtain ⟨hq, hn, hd, ht⟩ := h
    have hq := Nat.eq_of_beq_eq_true hq
    subst hq
    have hd' : decode cc p = .ok (i, n) := hd.elim (bf_m1_ok hl) id
    have ih := bf_wk_ok L (l.drop n) (p + n) (by rw [← hl, List.drop_drop]) ht
    unfold bf_ok at ih ⊢
    simp only [List.all_cons, Bool.and_eq_true, decide_eq_true_eq]
    exact ⟨⟨hd', hn⟩, ih⟩
theorem bf_walk {cc : ByteArray} {L : List (Nat × Instr × Nat × Nat)} (p : Nat) (h : bf_wk cc (cc.data.toList.drop p) p L = true) : bf_ok cc L = true := bf_wk_ok L _ p rfl h

