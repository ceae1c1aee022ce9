/-! Every instruction is what its bytes say: bytes one after the other -/
section ZDecode
def zKof {x : Jvm.ClassFile.Decoder Instr} {K : Nat → Jvm.ClassFile.Decoder Instr} (_ : x = (Jvm.ClassFile.Reader.u1 >>= K)) : Nat → Jvm.ClassFile.Decoder Instr := K
noncomputable def zDK (pc : Nat) : Nat → Jvm.ClassFile.Decoder Instr := zKof (x := Jvm.ClassFile.Decoder.instr pc) rfl
theorem zDK_eq (pc : Nat) : Jvm.ClassFile.Decoder.instr pc = (Jvm.ClassFile.Reader.u1 >>= zDK pc) := rfl
theorem zu1 {b : ByteArray} {pc : Nat} {v : UInt8} {t : List UInt8} (h : b.data.toList.drop pc = v :: t) : (Jvm.ClassFile.Reader.u1 : Jvm.ClassFile.Decoder Nat) b pc = .ok (v.toNat, pc + 1) ∧ b.data.toList.drop (pc + 1) = t := by
  have hlt : pc < b.data.toList.length := by
    have := congrArg List.length h
    rw [List.length_drop, List.length_cons] at this
    omega
  have hv : b.data.toList[pc] = v := by
    have h1 : (b.data.toList.drop pc)[0]? = some v := by rw [h]; rfl
    rw [List.getElem?_drop, Nat.add_zero, List.getElem?_eq_getElem hlt] at h1
    exact Option.some.inj h1
  refine ⟨?_, by rw [← List.drop_drop, h]; rfl⟩
  have hlt9 : pc < b.size := by
    show pc < b.data.size
    rw [← Array.length_toList]
    exact hlt
  have hv9 : b[pc] = v := by
    show b.data[pc] = v
    rw [← hv, Array.getElem_toList]
  show (if h : pc < b.size then _ else _ : Jvm.ClassFile.Decoder Nat) b pc = _
  rw [dif_pos hlt9]
  show Except.ok (b[pc].toNat, pc + 1) = _
  rw [hv9]
theorem zdec_of {b : ByteArray} {pc n m : Nat} {ins : Instr} (h : (Jvm.ClassFile.Reader.u1 : Jvm.ClassFile.Decoder Nat) b pc = .ok (n, pc + 1)) (h2 : zDK pc n b (pc + 1) = .ok (ins, pc + m)) : decode b pc = .ok (ins, m) := by
  have e : decode b pc = Except.bind (Except.bind ((Jvm.ClassFile.Reader.u1 : Jvm.ClassFile.Decoder Nat) b pc) (fun q => zDK pc q.1 b q.2)) (fun q => .ok (q.1, q.2 - pc)) := rfl
  rw [e, h]
  show Except.bind (zDK pc n b (pc + 1)) _ = _
  rw [h2]
  show Except.ok (ins, pc + m - pc) = _
  rw [Nat.add_sub_cancel_left]
/-- bytes: the first, and what is behind it -/
def zby0 (n : Nat) (bs : List UInt8) : Bool := match bs with
  | v :: _ => Nat.beq v.toNat n
  | [] => false
def zby1 (n x : Nat) (bs : List UInt8) : Bool := match bs with
  | v :: w :: _ => Nat.beq v.toNat n && Nat.beq w.toNat x
  | _ => false
def zbs1 (n : Nat) (x : Int) (bs : List UInt8) : Bool := match bs with
  | v :: w :: _ => Nat.beq v.toNat n && decide (Jvm.ClassFile.Reader.signed 8 w.toNat = x)
  | _ => false
def zby2 (n x : Nat) (bs : List UInt8) : Bool := match bs with
  | v :: w :: y :: _ => Nat.beq v.toNat n && Nat.beq (w.toNat * 256 + y.toNat) x
  | _ => false
def zbs2 (n : Nat) (x : Int) (bs : List UInt8) : Bool := match bs with
  | v :: w :: y :: _ => Nat.beq v.toNat n && decide (Jvm.ClassFile.Reader.signed 16 (w.toNat * 256 + y.toNat) = x)
  | _ => false
def zbi2 (n x : Nat) (z : Int) (bs : List UInt8) : Bool := match bs with
  | v :: w :: y :: _ => Nat.beq v.toNat n && (Nat.beq w.toNat x && decide (Jvm.ClassFile.Reader.signed 8 y.toNat = z))
  | _ => false
theorem zd0 {b : ByteArray} {pc n : Nat} {bs : List UInt8} {ins : Instr} (hb : b.data.toList.drop pc = bs) (h : zby0 n bs = true) (hK : zDK pc n b (pc + 1) = .ok (ins, pc + 1)) : decode b pc = .ok (ins, 1) := by
  unfold zby0 at h
  split at h
  · obtain ⟨h1, -⟩ := zu1 hb
    rw [Nat.eq_of_beq_eq_true h] at h1
    exact zdec_of h1 hK
  · cases h
theorem zd1 {b : ByteArray} {pc n x : Nat} {bs : List UInt8} {f : Nat → Instr} (hb : b.data.toList.drop pc = bs) (h : zby1 n x bs = true) (hK : zDK pc n b (pc + 1) = Except.bind ((Jvm.ClassFile.Reader.u1 : Jvm.ClassFile.Decoder Nat) b (pc + 1)) (fun q => .ok (f q.1, q.2))) : decode b pc = .ok (f x, 2) := by
  unfold zby1 at h
  split at h
  · obtain ⟨g1, g2⟩ := zand h
    obtain ⟨h1, h2⟩ := zu1 hb
    obtain ⟨h3, -⟩ := zu1 h2
    rw [Nat.eq_of_beq_eq_true g1] at h1
    rw [Nat.eq_of_beq_eq_true g2] at h3
    exact zdec_of h1 (by rw [hK, h3]; rfl)
  · cases h
theorem zs1 {b : ByteArray} {pc : Nat} {v : UInt8} {t : List UInt8} (h : b.data.toList.drop pc = v :: t) : (Jvm.ClassFile.Reader.s1 : Jvm.ClassFile.Decoder Int) b pc = .ok (Jvm.ClassFile.Reader.signed 8 v.toNat, pc + 1) := by
  obtain ⟨h1, -⟩ := zu1 h
  show Except.bind ((Jvm.ClassFile.Reader.u1 : Jvm.ClassFile.Decoder Nat) b pc) (fun q => .ok (Jvm.ClassFile.Reader.signed 8 q.1, q.2)) = _
  rw [h1]
  rfl
theorem zd1s {b : ByteArray} {pc n : Nat} {x : Int} {bs : List UInt8} {f : Int → Instr} (hb : b.data.toList.drop pc = bs) (h : zbs1 n x bs = true) (hK : zDK pc n b (pc + 1) = Except.bind ((Jvm.ClassFile.Reader.s1 : Jvm.ClassFile.Decoder Int) b (pc + 1)) (fun q => .ok (f q.1, q.2))) : decode b pc = .ok (f x, 2) := by
  unfold zbs1 at h
  split at h
  · obtain ⟨g1, g2⟩ := zand h
    obtain ⟨h1, h2⟩ := zu1 hb
    have h3 := zs1 h2
    rw [Nat.eq_of_beq_eq_true g1] at h1
    rw [of_decide_eq_true g2] at h3
    exact zdec_of h1 (by rw [hK, h3]; rfl)
  · cases h
theorem zu2 {b : ByteArray} {pc : Nat} {v w : UInt8} {t : List UInt8} (h : b.data.toList.drop pc = v :: w :: t) : (Jvm.ClassFile.Reader.u2 : Jvm.ClassFile.Decoder Nat) b pc = .ok (v.toNat * 256 + w.toNat, pc + 2) := by
  obtain ⟨h1, h2⟩ := zu1 h
  obtain ⟨h3, -⟩ := zu1 h2
  show Except.bind ((Jvm.ClassFile.Reader.u1 : Jvm.ClassFile.Decoder Nat) b pc) (fun q => Except.bind ((Jvm.ClassFile.Reader.u1 : Jvm.ClassFile.Decoder Nat) b q.2) (fun q2 => .ok (q.1 * 256 + q2.1, q2.2))) = _
  rw [h1]
  show Except.bind ((Jvm.ClassFile.Reader.u1 : Jvm.ClassFile.Decoder Nat) b (pc + 1)) _ = _
  rw [h3]
  rfl
theorem zs2 {b : ByteArray} {pc : Nat} {v w : UInt8} {t : List UInt8} (h : b.data.toList.drop pc = v :: w :: t) : (Jvm.ClassFile.Reader.s2 : Jvm.ClassFile.Decoder Int) b pc = .ok (Jvm.ClassFile.Reader.signed 16 (v.toNat * 256 + w.toNat), pc + 2) := by
  have h1 := zu2 h
  show Except.bind ((Jvm.ClassFile.Reader.u2 : Jvm.ClassFile.Decoder Nat) b pc) (fun q => .ok (Jvm.ClassFile.Reader.signed 16 q.1, q.2)) = _
  rw [h1]
  rfl
theorem zd2 {b : ByteArray} {pc n x : Nat} {bs : List UInt8} {f : Nat → Instr} (hb : b.data.toList.drop pc = bs) (h : zby2 n x bs = true) (hK : zDK pc n b (pc + 1) = Except.bind ((Jvm.ClassFile.Reader.u2 : Jvm.ClassFile.Decoder Nat) b (pc + 1)) (fun q => .ok (f q.1, q.2))) : decode b pc = .ok (f x, 3) := by
  unfold zby2 at h
  split at h
  · obtain ⟨g1, g2⟩ := zand h
    obtain ⟨h1, h2⟩ := zu1 hb
    have h3 := zu2 h2
    rw [Nat.eq_of_beq_eq_true g1] at h1
    rw [Nat.eq_of_beq_eq_true g2] at h3
    exact zdec_of h1 (by rw [hK, h3]; rfl)
  · cases h
theorem zd2s {b : ByteArray} {pc n : Nat} {x : Int} {bs : List UInt8} {f : Int → Instr} (hb : b.data.toList.drop pc = bs) (h : zbs2 n x bs = true) (hK : zDK pc n b (pc + 1) = Except.bind ((Jvm.ClassFile.Reader.s2 : Jvm.ClassFile.Decoder Int) b (pc + 1)) (fun q => .ok (f q.1, q.2))) : decode b pc = .ok (f x, 3) := by
  unfold zbs2 at h
  split at h
  · obtain ⟨g1, g2⟩ := zand h
    obtain ⟨h1, h2⟩ := zu1 hb
    have h3 := zs2 h2
    rw [Nat.eq_of_beq_eq_true g1] at h1
    rw [of_decide_eq_true g2] at h3
    exact zdec_of h1 (by rw [hK, h3]; rfl)
  · cases h
theorem zdi2 {b : ByteArray} {pc n x : Nat} {z : Int} {bs : List UInt8} {f : Nat → Int → Instr} (hb : b.data.toList.drop pc = bs) (h : zbi2 n x z bs = true) (hK : zDK pc n b (pc + 1) = Except.bind ((Jvm.ClassFile.Reader.u1 : Jvm.ClassFile.Decoder Nat) b (pc + 1)) (fun q => Except.bind ((Jvm.ClassFile.Reader.s1 : Jvm.ClassFile.Decoder Int) b q.2) (fun q2 => .ok (f q.1 q2.1, q2.2)))) : decode b pc = .ok (f x z, 3) := by
  unfold zbi2 at h
  split at h
  · obtain ⟨g1, g20⟩ := zand h
    obtain ⟨g2, g3⟩ := zand g20
    obtain ⟨h1, h2⟩ := zu1 hb
    obtain ⟨h3, h4⟩ := zu1 h2
    have h5 := zs1 h4
    rw [Nat.eq_of_beq_eq_true g1] at h1
    rw [Nat.eq_of_beq_eq_true g2] at h3
    rw [of_decide_eq_true g3] at h5
    exact zdec_of h1 (by
      rw [hK, h3]
      show Except.bind ((Jvm.ClassFile.Reader.s1 : Jvm.ClassFile.Decoder Int) b (pc + 1 + 1)) _ = _
      rw [h5]
      rfl)
  · cases h
theorem zlen1 {len n : Nat} {t : Bool} {b : ByteArray} {pc : Nat} {ins : Instr} (h : (Nat.beq len n && t) = true) (k : t = true → decode b pc = .ok (ins, n)) : decode b pc = .ok (ins, len) := by
  obtain ⟨h1, h2⟩ := zand h
  obtain rfl := Nat.eq_of_beq_eq_true h1
  exact k h2
def zt9_iconst (x : Int) (bs : List UInt8) : Bool := match bs with
  | v :: _ => (Nat.ble 2 v.toNat && Nat.ble v.toNat 8) && decide (x = (v.toNat : Int) - 3)
  | [] => false
theorem zd9_iconst {b : ByteArray} {pc : Nat} {bs : List UInt8} {x : Int} (hb : b.data.toList.drop pc = bs) (h : zt9_iconst x bs = true) : decode b pc = .ok (.iconst x, 1) := by
  unfold zt9_iconst at h
  split at h
  · rename_i v t
    obtain ⟨g1, g2⟩ := zand h
    obtain ⟨g3, g4⟩ := zand g1
    have g3 := Nat.le_of_ble_eq_true g3
    have g4 := Nat.le_of_ble_eq_true g4
    have g2 := of_decide_eq_true g2
    obtain ⟨h1, -⟩ := zu1 hb
    have h9 : v.toNat = 2 ∨ v.toNat = 3 ∨ v.toNat = 4 ∨ v.toNat = 5 ∨ v.toNat = 6 ∨ v.toNat = 7 ∨ v.toNat = 8 := by omega
    rcases h9 with h9 | h9 | h9 | h9 | h9 | h9 | h9 <;> (rw [h9] at h1 g2; subst g2; exact zdec_of h1 rfl)
  · cases h
def zt9_iload_n (x : Fin 4) (bs : List UInt8) : Bool := match bs with
  | v :: _ => Nat.beq v.toNat (26 + x.val)
  | [] => false
theorem zd9_iload_n {b : ByteArray} {pc : Nat} {bs : List UInt8} {x : Fin 4} (hb : b.data.toList.drop pc = bs) (h : zt9_iload_n x bs = true) : decode b pc = .ok (.iload_n x, 1) := by
  unfold zt9_iload_n at h
  split at h
  · have g2 := Nat.eq_of_beq_eq_true h
    obtain ⟨h1, -⟩ := zu1 hb
    rw [g2] at h1
    match x, h1 with
    | ⟨0, _⟩, h1 => exact zdec_of (n := 26) h1 rfl
    | ⟨1, _⟩, h1 => exact zdec_of (n := 27) h1 rfl
    | ⟨2, _⟩, h1 => exact zdec_of (n := 28) h1 rfl
    | ⟨3, _⟩, h1 => exact zdec_of (n := 29) h1 rfl
  · cases h
def zt9_lload_n (x : Fin 4) (bs : List UInt8) : Bool := match bs with
  | v :: _ => Nat.beq v.toNat (30 + x.val)
  | [] => false
theorem zd9_lload_n {b : ByteArray} {pc : Nat} {bs : List UInt8} {x : Fin 4} (hb : b.data.toList.drop pc = bs) (h : zt9_lload_n x bs = true) : decode b pc = .ok (.lload_n x, 1) := by
  unfold zt9_lload_n at h
  split at h
  · have g2 := Nat.eq_of_beq_eq_true h
    obtain ⟨h1, -⟩ := zu1 hb
    rw [g2] at h1
    match x, h1 with
    | ⟨0, _⟩, h1 => exact zdec_of (n := 30) h1 rfl
    | ⟨1, _⟩, h1 => exact zdec_of (n := 31) h1 rfl
    | ⟨2, _⟩, h1 => exact zdec_of (n := 32) h1 rfl
    | ⟨3, _⟩, h1 => exact zdec_of (n := 33) h1 rfl
  · cases h
def zt9_aload_n (x : Fin 4) (bs : List UInt8) : Bool := match bs with
  | v :: _ => Nat.beq v.toNat (42 + x.val)
  | [] => false
theorem zd9_aload_n {b : ByteArray} {pc : Nat} {bs : List UInt8} {x : Fin 4} (hb : b.data.toList.drop pc = bs) (h : zt9_aload_n x bs = true) : decode b pc = .ok (.aload_n x, 1) := by
  unfold zt9_aload_n at h
  split at h
  · have g2 := Nat.eq_of_beq_eq_true h
    obtain ⟨h1, -⟩ := zu1 hb
    rw [g2] at h1
    match x, h1 with
    | ⟨0, _⟩, h1 => exact zdec_of (n := 42) h1 rfl
    | ⟨1, _⟩, h1 => exact zdec_of (n := 43) h1 rfl
    | ⟨2, _⟩, h1 => exact zdec_of (n := 44) h1 rfl
    | ⟨3, _⟩, h1 => exact zdec_of (n := 45) h1 rfl
  · cases h
def zt9_istore_n (x : Fin 4) (bs : List UInt8) : Bool := match bs with
  | v :: _ => Nat.beq v.toNat (59 + x.val)
  | [] => false
theorem zd9_istore_n {b : ByteArray} {pc : Nat} {bs : List UInt8} {x : Fin 4} (hb : b.data.toList.drop pc = bs) (h : zt9_istore_n x bs = true) : decode b pc = .ok (.istore_n x, 1) := by
  unfold zt9_istore_n at h
  split at h
  · have g2 := Nat.eq_of_beq_eq_true h
    obtain ⟨h1, -⟩ := zu1 hb
    rw [g2] at h1
    match x, h1 with
    | ⟨0, _⟩, h1 => exact zdec_of (n := 59) h1 rfl
    | ⟨1, _⟩, h1 => exact zdec_of (n := 60) h1 rfl
    | ⟨2, _⟩, h1 => exact zdec_of (n := 61) h1 rfl
    | ⟨3, _⟩, h1 => exact zdec_of (n := 62) h1 rfl
  · cases h
def zt9_lstore_n (x : Fin 4) (bs : List UInt8) : Bool := match bs with
  | v :: _ => Nat.beq v.toNat (63 + x.val)
  | [] => false
theorem zd9_lstore_n {b : ByteArray} {pc : Nat} {bs : List UInt8} {x : Fin 4} (hb : b.data.toList.drop pc = bs) (h : zt9_lstore_n x bs = true) : decode b pc = .ok (.lstore_n x, 1) := by
  unfold zt9_lstore_n at h
  split at h
  · have g2 := Nat.eq_of_beq_eq_true h
    obtain ⟨h1, -⟩ := zu1 hb
    rw [g2] at h1
    match x, h1 with
    | ⟨0, _⟩, h1 => exact zdec_of (n := 63) h1 rfl
    | ⟨1, _⟩, h1 => exact zdec_of (n := 64) h1 rfl
    | ⟨2, _⟩, h1 => exact zdec_of (n := 65) h1 rfl
    | ⟨3, _⟩, h1 => exact zdec_of (n := 66) h1 rfl
  · cases h
def zt9_astore_n (x : Fin 4) (bs : List UInt8) : Bool := match bs with
  | v :: _ => Nat.beq v.toNat (75 + x.val)
  | [] => false
theorem zd9_astore_n {b : ByteArray} {pc : Nat} {bs : List UInt8} {x : Fin 4} (hb : b.data.toList.drop pc = bs) (h : zt9_astore_n x bs = true) : decode b pc = .ok (.astore_n x, 1) := by
  unfold zt9_astore_n at h
  split at h
  · have g2 := Nat.eq_of_beq_eq_true h
    obtain ⟨h1, -⟩ := zu1 hb
    rw [g2] at h1
    match x, h1 with
    | ⟨0, _⟩, h1 => exact zdec_of (n := 75) h1 rfl
    | ⟨1, _⟩, h1 => exact zdec_of (n := 76) h1 rfl
    | ⟨2, _⟩, h1 => exact zdec_of (n := 77) h1 rfl
    | ⟨3, _⟩, h1 => exact zdec_of (n := 78) h1 rfl
  · cases h
def zt9_lconst (x : Fin 2) (bs : List UInt8) : Bool := match bs with
  | v :: _ => Nat.beq v.toNat (9 + x.val)
  | [] => false
theorem zd9_lconst {b : ByteArray} {pc : Nat} {bs : List UInt8} {x : Fin 2} (hb : b.data.toList.drop pc = bs) (h : zt9_lconst x bs = true) : decode b pc = .ok (.lconst x, 1) := by
  unfold zt9_lconst at h
  split at h
  · have g2 := Nat.eq_of_beq_eq_true h
    obtain ⟨h1, -⟩ := zu1 hb
    rw [g2] at h1
    match x, h1 with
    | ⟨0, _⟩, h1 => exact zdec_of (n := 9) h1 rfl
    | ⟨1, _⟩, h1 => exact zdec_of (n := 10) h1 rfl
  · cases h
def zt9_ifCond (cd : Jvm.ClassFile.Cond) (x : Int) (bs : List UInt8) : Bool := match cd with
  | .eq => zbs2 153 x bs
  | .ne => zbs2 154 x bs
  | .lt => zbs2 155 x bs
  | .ge => zbs2 156 x bs
  | .gt => zbs2 157 x bs
  | .le => zbs2 158 x bs
theorem zd9_ifCond {b : ByteArray} {pc : Nat} {bs : List UInt8} {cd : Jvm.ClassFile.Cond} {x : Int} (hb : b.data.toList.drop pc = bs) (h : zt9_ifCond cd x bs = true) : decode b pc = .ok (.ifCond cd x, 3) := by
  cases cd with
  | eq => exact zd2s (n := 153) hb h rfl
  | ne => exact zd2s (n := 154) hb h rfl
  | lt => exact zd2s (n := 155) hb h rfl
  | ge => exact zd2s (n := 156) hb h rfl
  | gt => exact zd2s (n := 157) hb h rfl
  | le => exact zd2s (n := 158) hb h rfl
def zt9_if_icmp (cd : Jvm.ClassFile.Cond) (x : Int) (bs : List UInt8) : Bool := match cd with
  | .eq => zbs2 159 x bs
  | .ne => zbs2 160 x bs
  | .lt => zbs2 161 x bs
  | .ge => zbs2 162 x bs
  | .gt => zbs2 163 x bs
  | .le => zbs2 164 x bs
theorem zd9_if_icmp {b : ByteArray} {pc : Nat} {bs : List UInt8} {cd : Jvm.ClassFile.Cond} {x : Int} (hb : b.data.toList.drop pc = bs) (h : zt9_if_icmp cd x bs = true) : decode b pc = .ok (.if_icmp cd x, 3) := by
  cases cd with
  | eq => exact zd2s (n := 159) hb h rfl
  | ne => exact zd2s (n := 160) hb h rfl
  | lt => exact zd2s (n := 161) hb h rfl
  | ge => exact zd2s (n := 162) hb h rfl
  | gt => exact zd2s (n := 163) hb h rfl
  | le => exact zd2s (n := 164) hb h rfl
def zt9_newa (x : ArrayType) (bs : List UInt8) : Bool := match x with
  | .int => zby1 188 10 bs
  | .long => zby1 188 11 bs
  | .boolean => zby1 188 4 bs
  | _ => false
theorem zd9_newb {b : ByteArray} {pc n : Nat} {bs : List UInt8} (hb : b.data.toList.drop pc = bs) (h : zby1 188 n bs = true) : (Jvm.ClassFile.Reader.u1 : Jvm.ClassFile.Decoder Nat) b pc = .ok (188, pc + 1) ∧ (Jvm.ClassFile.Reader.u1 : Jvm.ClassFile.Decoder Nat) b (pc + 1) = .ok (n, pc + 2) := by
  unfold zby1 at h
  split at h
  · obtain ⟨g1, g2⟩ := zand h
    obtain ⟨h1, h2⟩ := zu1 hb
    obtain ⟨h3, -⟩ := zu1 h2
    rw [Nat.eq_of_beq_eq_true g1] at h1
    rw [Nat.eq_of_beq_eq_true g2] at h3
    exact ⟨h1, h3⟩
  · cases h
def zKof2 {x : Jvm.ClassFile.Decoder Instr} {K : Nat → Jvm.ClassFile.Decoder Instr} (_ : x = (Jvm.ClassFile.Reader.u1 >>= K)) : Nat → Jvm.ClassFile.Decoder Instr := K
noncomputable def zDN (pc : Nat) : Nat → Jvm.ClassFile.Decoder Instr := zKof2 (x := Jvm.ClassFile.Decoder.newarray pc) rfl
theorem zd9_newc {b : ByteArray} {pc n : Nat} {bs : List UInt8} {ins : Instr} (hb : b.data.toList.drop pc = bs) (h : zby1 188 n bs = true) (hK : zDN pc n b (pc + 2) = .ok (ins, pc + 2)) : decode b pc = .ok (ins, 2) := by
  obtain ⟨h1, h2⟩ := zd9_newb hb h
  refine zdec_of h1 ?_
  show Except.bind ((Jvm.ClassFile.Reader.u1 : Jvm.ClassFile.Decoder Nat) b (pc + 1)) (fun q => zDN pc q.1 b q.2) = _
  rw [h2]
  exact hK
theorem zd9_newa {b : ByteArray} {pc : Nat} {bs : List UInt8} {x : ArrayType} (hb : b.data.toList.drop pc = bs) (h : zt9_newa x bs = true) : decode b pc = .ok (.newarray x, 2) := by
  cases x <;> first
    | (cases h; done)
    | exact zd9_newc (n := 10) hb h rfl
    | exact zd9_newc (n := 11) hb h rfl
    | exact zd9_newc (n := 4) hb h rfl
def zen (b : ByteArray) (pc : Nat) (ins : Instr) (len : Nat) (bs : List UInt8) : Bool := match ins with
  | .aconst_null => Nat.beq len 1 && zby0 1 bs
  | .dup => Nat.beq len 1 && zby0 89 bs
  | .dup2 => Nat.beq len 1 && zby0 92 bs
  | .pop => Nat.beq len 1 && zby0 87 bs
  | .iaload => Nat.beq len 1 && zby0 46 bs
  | .laload => Nat.beq len 1 && zby0 47 bs
  | .aaload => Nat.beq len 1 && zby0 50 bs
  | .baload => Nat.beq len 1 && zby0 51 bs
  | .iastore => Nat.beq len 1 && zby0 79 bs
  | .lastore => Nat.beq len 1 && zby0 80 bs
  | .aastore => Nat.beq len 1 && zby0 83 bs
  | .bastore => Nat.beq len 1 && zby0 84 bs
  | .iadd => Nat.beq len 1 && zby0 96 bs
  | .ladd => Nat.beq len 1 && zby0 97 bs
  | .isub => Nat.beq len 1 && zby0 100 bs
  | .lsub => Nat.beq len 1 && zby0 101 bs
  | .imul => Nat.beq len 1 && zby0 104 bs
  | .lmul => Nat.beq len 1 && zby0 105 bs
  | .idiv => Nat.beq len 1 && zby0 108 bs
  | .ldiv => Nat.beq len 1 && zby0 109 bs
  | .irem => Nat.beq len 1 && zby0 112 bs
  | .lrem => Nat.beq len 1 && zby0 113 bs
  | .ineg => Nat.beq len 1 && zby0 116 bs
  | .ishl => Nat.beq len 1 && zby0 120 bs
  | .lshl => Nat.beq len 1 && zby0 121 bs
  | .ishr => Nat.beq len 1 && zby0 122 bs
  | .lshr => Nat.beq len 1 && zby0 123 bs
  | .iushr => Nat.beq len 1 && zby0 124 bs
  | .lushr => Nat.beq len 1 && zby0 125 bs
  | .iand => Nat.beq len 1 && zby0 126 bs
  | .land => Nat.beq len 1 && zby0 127 bs
  | .ior => Nat.beq len 1 && zby0 128 bs
  | .lor => Nat.beq len 1 && zby0 129 bs
  | .ixor => Nat.beq len 1 && zby0 130 bs
  | .i2l => Nat.beq len 1 && zby0 133 bs
  | .l2i => Nat.beq len 1 && zby0 136 bs
  | .i2c => Nat.beq len 1 && zby0 146 bs
  | .lcmp => Nat.beq len 1 && zby0 148 bs
  | .ireturn => Nat.beq len 1 && zby0 172 bs
  | .lreturn => Nat.beq len 1 && zby0 173 bs
  | .areturn => Nat.beq len 1 && zby0 176 bs
  | .return_ => Nat.beq len 1 && zby0 177 bs
  | .arraylength => Nat.beq len 1 && zby0 190 bs
  | .athrow => Nat.beq len 1 && zby0 191 bs
  | .ldc x => Nat.beq len 2 && zby1 18 x bs
  | .iload x => Nat.beq len 2 && zby1 21 x bs
  | .lload x => Nat.beq len 2 && zby1 22 x bs
  | .aload x => Nat.beq len 2 && zby1 25 x bs
  | .istore x => Nat.beq len 2 && zby1 54 x bs
  | .lstore x => Nat.beq len 2 && zby1 55 x bs
  | .astore x => Nat.beq len 2 && zby1 58 x bs
  | .ldc_w x => Nat.beq len 3 && zby2 19 x bs
  | .ldc2_w x => Nat.beq len 3 && zby2 20 x bs
  | .getstatic x => Nat.beq len 3 && zby2 178 x bs
  | .getfield x => Nat.beq len 3 && zby2 180 x bs
  | .putfield x => Nat.beq len 3 && zby2 181 x bs
  | .invokevirtual x => Nat.beq len 3 && zby2 182 x bs
  | .invokespecial x => Nat.beq len 3 && zby2 183 x bs
  | .invokestatic x => Nat.beq len 3 && zby2 184 x bs
  | .new x => Nat.beq len 3 && zby2 187 x bs
  | .anewarray x => Nat.beq len 3 && zby2 189 x bs
  | .checkcast x => Nat.beq len 3 && zby2 192 x bs
  | .sipush x => Nat.beq len 3 && zbs2 17 x bs
  | .goto x => Nat.beq len 3 && zbs2 167 x bs
  | .ifnonnull x => Nat.beq len 3 && zbs2 199 x bs
  | .bipush x => Nat.beq len 2 && zbs1 16 x bs
  | .iinc x z => Nat.beq len 3 && zbi2 132 x z bs
  | .iconst x => Nat.beq len 1 && zt9_iconst x bs
  | .iload_n x => Nat.beq len 1 && zt9_iload_n x bs
  | .lload_n x => Nat.beq len 1 && zt9_lload_n x bs
  | .aload_n x => Nat.beq len 1 && zt9_aload_n x bs
  | .istore_n x => Nat.beq len 1 && zt9_istore_n x bs
  | .lstore_n x => Nat.beq len 1 && zt9_lstore_n x bs
  | .astore_n x => Nat.beq len 1 && zt9_astore_n x bs
  | .lconst x => Nat.beq len 1 && zt9_lconst x bs
  | .ifCond cd x => Nat.beq len 3 && zt9_ifCond cd x bs
  | .if_icmp cd x => Nat.beq len 3 && zt9_if_icmp cd x bs
  | .newarray x => Nat.beq len 2 && zt9_newa x bs
  | .tableswitch a1 a2 a3 a4 => decide (decode b pc = .ok (.tableswitch a1 a2 a3 a4, len))
  | _ => false
theorem zen_ok {b : ByteArray} {pc : Nat} {bs : List UInt8} (hb : b.data.toList.drop pc = bs) {ins : Instr} {len : Nat} (h : zen b pc ins len bs = true) : decode b pc = .ok (ins, len) := by
  cases ins with
  | aconst_null => exact zlen1 h (fun h => zd0 (n := 1) hb h rfl)
  | dup => exact zlen1 h (fun h => zd0 (n := 89) hb h rfl)
  | dup2 => exact zlen1 h (fun h => zd0 (n := 92) hb h rfl)
  | pop => exact zlen1 h (fun h => zd0 (n := 87) hb h rfl)
  | iaload => exact zlen1 h (fun h => zd0 (n := 46) hb h rfl)
  | laload => exact zlen1 h (fun h => zd0 (n := 47) hb h rfl)
  | aaload => exact zlen1 h (fun h => zd0 (n := 50) hb h rfl)
  | baload => exact zlen1 h (fun h => zd0 (n := 51) hb h rfl)
  | iastore => exact zlen1 h (fun h => zd0 (n := 79) hb h rfl)
  | lastore => exact zlen1 h (fun h => zd0 (n := 80) hb h rfl)
  | aastore => exact zlen1 h (fun h => zd0 (n := 83) hb h rfl)
  | bastore => exact zlen1 h (fun h => zd0 (n := 84) hb h rfl)
  | iadd => exact zlen1 h (fun h => zd0 (n := 96) hb h rfl)
  | ladd => exact zlen1 h (fun h => zd0 (n := 97) hb h rfl)
  | isub => exact zlen1 h (fun h => zd0 (n := 100) hb h rfl)
  | lsub => exact zlen1 h (fun h => zd0 (n := 101) hb h rfl)
  | imul => exact zlen1 h (fun h => zd0 (n := 104) hb h rfl)
  | lmul => exact zlen1 h (fun h => zd0 (n := 105) hb h rfl)
  | idiv => exact zlen1 h (fun h => zd0 (n := 108) hb h rfl)
  | ldiv => exact zlen1 h (fun h => zd0 (n := 109) hb h rfl)
  | irem => exact zlen1 h (fun h => zd0 (n := 112) hb h rfl)
  | lrem => exact zlen1 h (fun h => zd0 (n := 113) hb h rfl)
  | ineg => exact zlen1 h (fun h => zd0 (n := 116) hb h rfl)
  | ishl => exact zlen1 h (fun h => zd0 (n := 120) hb h rfl)
  | lshl => exact zlen1 h (fun h => zd0 (n := 121) hb h rfl)
  | ishr => exact zlen1 h (fun h => zd0 (n := 122) hb h rfl)
  | lshr => exact zlen1 h (fun h => zd0 (n := 123) hb h rfl)
  | iushr => exact zlen1 h (fun h => zd0 (n := 124) hb h rfl)
  | lushr => exact zlen1 h (fun h => zd0 (n := 125) hb h rfl)
  | iand => exact zlen1 h (fun h => zd0 (n := 126) hb h rfl)
  | land => exact zlen1 h (fun h => zd0 (n := 127) hb h rfl)
  | ior => exact zlen1 h (fun h => zd0 (n := 128) hb h rfl)
  | lor => exact zlen1 h (fun h => zd0 (n := 129) hb h rfl)
  | ixor => exact zlen1 h (fun h => zd0 (n := 130) hb h rfl)
  | i2l => exact zlen1 h (fun h => zd0 (n := 133) hb h rfl)
  | l2i => exact zlen1 h (fun h => zd0 (n := 136) hb h rfl)
  | i2c => exact zlen1 h (fun h => zd0 (n := 146) hb h rfl)
  | lcmp => exact zlen1 h (fun h => zd0 (n := 148) hb h rfl)
  | ireturn => exact zlen1 h (fun h => zd0 (n := 172) hb h rfl)
  | lreturn => exact zlen1 h (fun h => zd0 (n := 173) hb h rfl)
  | areturn => exact zlen1 h (fun h => zd0 (n := 176) hb h rfl)
  | return_ => exact zlen1 h (fun h => zd0 (n := 177) hb h rfl)
  | arraylength => exact zlen1 h (fun h => zd0 (n := 190) hb h rfl)
  | athrow => exact zlen1 h (fun h => zd0 (n := 191) hb h rfl)
  | ldc x => exact zlen1 h (fun h => zd1 (n := 18) hb h rfl)
  | iload x => exact zlen1 h (fun h => zd1 (n := 21) hb h rfl)
  | lload x => exact zlen1 h (fun h => zd1 (n := 22) hb h rfl)
  | aload x => exact zlen1 h (fun h => zd1 (n := 25) hb h rfl)
  | istore x => exact zlen1 h (fun h => zd1 (n := 54) hb h rfl)
  | lstore x => exact zlen1 h (fun h => zd1 (n := 55) hb h rfl)
  | astore x => exact zlen1 h (fun h => zd1 (n := 58) hb h rfl)
  | ldc_w x => exact zlen1 h (fun h => zd2 (n := 19) hb h rfl)
  | ldc2_w x => exact zlen1 h (fun h => zd2 (n := 20) hb h rfl)
  | getstatic x => exact zlen1 h (fun h => zd2 (n := 178) hb h rfl)
  | getfield x => exact zlen1 h (fun h => zd2 (n := 180) hb h rfl)
  | putfield x => exact zlen1 h (fun h => zd2 (n := 181) hb h rfl)
  | invokevirtual x => exact zlen1 h (fun h => zd2 (n := 182) hb h rfl)
  | invokespecial x => exact zlen1 h (fun h => zd2 (n := 183) hb h rfl)
  | invokestatic x => exact zlen1 h (fun h => zd2 (n := 184) hb h rfl)
  | new x => exact zlen1 h (fun h => zd2 (n := 187) hb h rfl)
  | anewarray x => exact zlen1 h (fun h => zd2 (n := 189) hb h rfl)
  | checkcast x => exact zlen1 h (fun h => zd2 (n := 192) hb h rfl)
  | sipush x => exact zlen1 h (fun h => zd2s (n := 17) hb h rfl)
  | goto x => exact zlen1 h (fun h => zd2s (n := 167) hb h rfl)
  | ifnonnull x => exact zlen1 h (fun h => zd2s (n := 199) hb h rfl)
  | bipush x => exact zlen1 h (fun h => zd1s (n := 16) hb h rfl)
  | iinc x z => exact zlen1 h (fun h => zdi2 (n := 132) hb h rfl)
  | iconst x => exact zlen1 h (fun h => zd9_iconst hb h)
  | iload_n x => exact zlen1 h (fun h => zd9_iload_n hb h)
  | lload_n x => exact zlen1 h (fun h => zd9_lload_n hb h)
  | aload_n x => exact zlen1 h (fun h => zd9_aload_n hb h)
  | istore_n x => exact zlen1 h (fun h => zd9_istore_n hb h)
  | lstore_n x => exact zlen1 h (fun h => zd9_lstore_n hb h)
  | astore_n x => exact zlen1 h (fun h => zd9_astore_n hb h)
  | lconst x => exact zlen1 h (fun h => zd9_lconst hb h)
  | ifCond cd x => exact zlen1 h (fun h => zd9_ifCond hb h)
  | if_icmp cd x => exact zlen1 h (fun h => zd9_if_icmp hb h)
  | newarray x => exact zlen1 h (fun h => zd9_newa hb h)
  | tableswitch a1 a2 a3 a4 => exact of_decide_eq_true h
  | _ => cases h
/-- one after the other, from pc on -/
def zsq (b : ByteArray) : List ZOp → Nat → List UInt8 → Bool
  | [], _, _ => true
  | o :: os, pc, bs => Nat.beq o.1 pc && (zen b pc o.2.1 o.2.2.1 bs && zsq b os (pc + o.2.2.1) (bs.drop o.2.2.1))
def zsqL (b : ByteArray) : List (List ZOp) → Nat → List UInt8 → Bool
  | [], _, _ => true
  | l :: ls, pc, bs => zsq b l pc bs && (match l.getLast? with
    | some o => zsqL b ls (o.1 + o.2.2.1) (bs.drop (o.1 + o.2.2.1 - pc))
    | none => zsqL b ls pc bs)
def zsqM (M : ZMt) : Bool := zsqL (zmCode M) (zmOps M) 0 (zmCode M).data.toList
theorem zsq_ok {b : ByteArray} : ∀ {os : List ZOp} {pc : Nat} {bs : List UInt8}, b.data.toList.drop pc = bs → zsq b os pc bs = true → (∀ o ∈ os, decode b o.1 = .ok (o.2.1, o.2.2.1)) ∧ ∀ o, os.getLast? = some o → pc ≤ o.1
  | [], _, _, _, _ => ⟨fun _ h => (nomatch h), fun _ h => by cases h⟩
  | o :: os, pc, bs, hb, h => by
    obtain ⟨h1, h2⟩ := zand h
    obtain ⟨h3, h4⟩ := zand h2
    have e := Nat.eq_of_beq_eq_true h1
    obtain ⟨i1, i2⟩ := zsq_ok (by rw [← hb, List.drop_drop]) h4
    refine ⟨fun o9 ho => ?_, fun o9 ho => ?_⟩
    · rcases List.mem_cons.mp ho with rfl | ho
      · rw [e]
        exact zen_ok hb h3
      · exact i1 o9 ho
    · cases os with
      | nil =>
        have ho : some o = some o9 := ho
        cases ho
        omega
      | cons a t =>
        rw [List.getLast?_cons_cons] at ho
        have := i2 o9 ho
        omega
theorem zsqL_ok {b : ByteArray} : ∀ {ls : List (List ZOp)} {pc : Nat} {bs : List UInt8}, b.data.toList.drop pc = bs → zsqL b ls pc bs = true → ∀ l ∈ ls, ∀ o ∈ l, decode b o.1 = .ok (o.2.1, o.2.2.1)
  | [], _, _, _, _ => fun _ h => (nomatch h)
  | l :: ls, pc, bs, hb, h => by
    obtain ⟨h1, h2⟩ := zand h
    obtain ⟨i1, i2⟩ := zsq_ok hb h1
    intro l9 hl o ho
    rcases List.mem_cons.mp hl with rfl | hl
    · exact i1 o ho
    · split at h2
      · rename_i o2 hg
        have hle := i2 o2 hg
        exact zsqL_ok (by rw [← hb, List.drop_drop]; congr 1; omega) h2 l9 hl o ho
      · exact zsqL_ok hb h2 l9 hl o ho
theorem zsqM_ok {M : ZMt} (h : zsqM M = true) : zDec M := by
  intro i pc len ins r ho
  unfold zop at ho
  split at ho
  · rename_i l hl
    have h9 : zsqL (zmCode M) (zmOps M) 0 (zmCode M).data.toList = true := h
    have h8 := zsqL_ok List.drop_zero h9 l (List.mem_of_getElem? hl) (pc, ins, len, r) (List.mem_of_getElem? ho)
    exact h8
  · cases ho
end ZDecode
