/-! Every plain instruction: out of the check and the predicate zv -/
theorem zand {a b : Bool} (h : (a && b) = true) : a = true ∧ b = true := by
  cases a <;> cases b <;> simp_all
theorem zor {a b : Bool} (h : (a || b) = true) : a = true ∨ b = true := by
  cases a <;> cases b <;> simp_all
theorem znx_spec {M : ZMt} {i pc len : Nat} (h : znx M i pc len = true) : zpcOf M (i + 1) = pc + len := by
  unfold znx at h
  unfold zpcOf
  split at h
  · exact Nat.eq_of_beq_eq_true h
  · cases h
theorem zCI_at {own x k : Nat} (h : zCI.any (fun q => q.2 == (own, x, k)) = true) : Cond.constant (zcn own) x (nI k) ∈ zTB := by
  obtain ⟨⟨j, q⟩, hq, he⟩ := List.any_eq_true.mp h
  have he : q = (own, x, k) := by simpa using he
  subst he
  exact zhas_in (List.all_eq_true.mp zCI_ok _ hq)
theorem zCJ_at {own x k : Nat} (h : zCJ.any (fun q => q.2 == (own, x, k)) = true) : Cond.constantLong (zcn own) x (lN k) ∈ zTB := by
  obtain ⟨⟨j, q⟩, hq, he⟩ := List.any_eq_true.mp h
  have he : q = (own, x, k) := by simpa using he
  subst he
  exact zhas_in (List.all_eq_true.mp zCJ_ok _ hq)
section ZPlain
variable {p : Program} {l : Launch} {e : Env} {R : Room} {s : State} {m : MethodId} {args : Array Value} {below : List Frame} {meth : Method} {c : Code} {Q : State → Prop} {M : ZMt} {cad : Nat → Nat} {tc : Nat → ClassId} {D : va_G} {S0 : ZSt} {A : Nat → Prop} {ws0 : va_W} {c0 z0 : Nat}
variable {i pc len : Nat} {r : List Nat} {ls : ZLo} {st : List Value} {S : ZSt} {K : ZNx}
theorem zt_iconst {n : Int} (C : zCx p l R s m args meth c M cad S0 A) (hp : zpcOf M i = pc) (hd : decode (zmCode M) pc = .ok (.iconst n, len)) (hck : zchk M i (pc, .iconst n, len, r) = true) (hv : zv (.iconst n) r i ls st S K)
    (hK : ∀ i1 l1 s1 S1, K i1 l1 s1 S1 → zu S1 - c0 ≤ R.cells ∧ zz S1 - z0 ≤ R.slots ∧ zGo p l e R s m args below meth c Q M cad tc D S0 A ws0 c0 z0 i1 l1 s1 S1) : zGo p l e R s m args below meth c Q M cad tc D S0 A ws0 c0 z0 i ls st S := by
  have hck : (Nat.beq len 1 && (znx M i pc 1 && decide (Int32.ofInt n = zcst r))) = true := hck
  obtain ⟨h1, h20⟩ := zand hck
  obtain ⟨h2, h3⟩ := zand h20
  clear h20
  obtain rfl : len = 1 := Nat.eq_of_beq_eq_true h1
  exact zs_iconst C hp hd (znx_spec h2) (of_decide_eq_true h3) (hK _ _ _ _ hv).2.2
theorem zt_bipush {n : Int} (C : zCx p l R s m args meth c M cad S0 A) (hp : zpcOf M i = pc) (hd : decode (zmCode M) pc = .ok (.bipush n, len)) (hck : zchk M i (pc, .bipush n, len, r) = true) (hv : zv (.bipush n) r i ls st S K)
    (hK : ∀ i1 l1 s1 S1, K i1 l1 s1 S1 → zu S1 - c0 ≤ R.cells ∧ zz S1 - z0 ≤ R.slots ∧ zGo p l e R s m args below meth c Q M cad tc D S0 A ws0 c0 z0 i1 l1 s1 S1) : zGo p l e R s m args below meth c Q M cad tc D S0 A ws0 c0 z0 i ls st S := by
  have hck : (Nat.beq len 2 && (znx M i pc 2 && decide ((Int8.ofInt n).toInt32 = zcst r))) = true := hck
  obtain ⟨h1, h20⟩ := zand hck
  obtain ⟨h2, h3⟩ := zand h20
  clear h20
  obtain rfl : len = 2 := Nat.eq_of_beq_eq_true h1
  exact zs_bipush C hp hd (znx_spec h2) (of_decide_eq_true h3) (hK _ _ _ _ hv).2.2
theorem zt_sipush {n : Int} (C : zCx p l R s m args meth c M cad S0 A) (hp : zpcOf M i = pc) (hd : decode (zmCode M) pc = .ok (.sipush n, len)) (hck : zchk M i (pc, .sipush n, len, r) = true) (hv : zv (.sipush n) r i ls st S K)
    (hK : ∀ i1 l1 s1 S1, K i1 l1 s1 S1 → zu S1 - c0 ≤ R.cells ∧ zz S1 - z0 ≤ R.slots ∧ zGo p l e R s m args below meth c Q M cad tc D S0 A ws0 c0 z0 i1 l1 s1 S1) : zGo p l e R s m args below meth c Q M cad tc D S0 A ws0 c0 z0 i ls st S := by
  have hck : (Nat.beq len 3 && (znx M i pc 3 && decide ((Int16.ofInt n).toInt32 = zcst r))) = true := hck
  obtain ⟨h1, h20⟩ := zand hck
  obtain ⟨h2, h3⟩ := zand h20
  clear h20
  obtain rfl : len = 3 := Nat.eq_of_beq_eq_true h1
  exact zs_sipush C hp hd (znx_spec h2) (of_decide_eq_true h3) (hK _ _ _ _ hv).2.2
theorem zt_lconst {n : Fin 2} (C : zCx p l R s m args meth c M cad S0 A) (hp : zpcOf M i = pc) (hd : decode (zmCode M) pc = .ok (.lconst n, len)) (hck : zchk M i (pc, .lconst n, len, r) = true) (hv : zv (.lconst n) r i ls st S K)
    (hK : ∀ i1 l1 s1 S1, K i1 l1 s1 S1 → zu S1 - c0 ≤ R.cells ∧ zz S1 - z0 ≤ R.slots ∧ zGo p l e R s m args below meth c Q M cad tc D S0 A ws0 c0 z0 i1 l1 s1 S1) : zGo p l e R s m args below meth c Q M cad tc D S0 A ws0 c0 z0 i ls st S := by
  have hck : (Nat.beq len 1 && znx M i pc 1) = true := hck
  obtain ⟨h1, h2⟩ := zand hck
  obtain rfl : len = 1 := Nat.eq_of_beq_eq_true h1
  exact zs_lconst C hp hd (znx_spec h2) (hK _ _ _ _ hv).2.2
theorem zt_null (C : zCx p l R s m args meth c M cad S0 A) (hp : zpcOf M i = pc) (hd : decode (zmCode M) pc = .ok (.aconst_null, len)) (hck : zchk M i (pc, .aconst_null, len, r) = true) (hv : zv (.aconst_null) r i ls st S K)
    (hK : ∀ i1 l1 s1 S1, K i1 l1 s1 S1 → zu S1 - c0 ≤ R.cells ∧ zz S1 - z0 ≤ R.slots ∧ zGo p l e R s m args below meth c Q M cad tc D S0 A ws0 c0 z0 i1 l1 s1 S1) : zGo p l e R s m args below meth c Q M cad tc D S0 A ws0 c0 z0 i ls st S := by
  have hck : (Nat.beq len 1 && znx M i pc 1) = true := hck
  obtain ⟨h1, h2⟩ := zand hck
  obtain rfl : len = 1 := Nat.eq_of_beq_eq_true h1
  exact zs_null C hp hd (znx_spec h2) (hK _ _ _ _ hv).2.2
theorem zt_ldc {x : Nat} (C : zCx p l R s m args meth c M cad S0 A) (hp : zpcOf M i = pc) (hd : decode (zmCode M) pc = .ok (.ldc x, len)) (hck : zchk M i (pc, .ldc x, len, r) = true) (hv : zv (.ldc x) r i ls st S K)
    (hK : ∀ i1 l1 s1 S1, K i1 l1 s1 S1 → zu S1 - c0 ≤ R.cells ∧ zz S1 - z0 ≤ R.slots ∧ zGo p l e R s m args below meth c Q M cad tc D S0 A ws0 c0 z0 i1 l1 s1 S1) : zGo p l e R s m args below meth c Q M cad tc D S0 A ws0 c0 z0 i ls st S := by
  have hck : (Nat.beq len 2 && (znx M i pc 2 && (match (generalizing := false) r with
      | [0, k] => zCI.any (fun q => q.2 == (zmOwn M, x, k))
      | [1, k] => zSTR.any (fun q => (q.1, q.2.1, q.2.2.1) == (zmOwn M, x, k))
      | _ => false))) = true := hck
  obtain ⟨h1, h20⟩ := zand hck
  obtain ⟨h2, h3⟩ := zand h20
  clear h20
  obtain rfl : len = 2 := Nat.eq_of_beq_eq_true h1
  have hv : (match (generalizing := false) r with
    | [0, k] => K (i + 1) ls (.int (nI k) :: st) S
    | [1, k] => K (i + 1) ls (.ref k :: st) S
    | _ => False) := hv
  split at hv
  · exact zs_ldc C hp hd (znx_spec h2) (zCI_at (by exact h3)) (hK _ _ _ _ hv).2.2
  · have hKw := C.2.2.2.2.2.2.2.2.2.2.2.1
    exact zs_ldcS C hp hd (znx_spec h2) (zSTR_R hKw (by exact h3)).1 (zSTR_R hKw (by exact h3)).2 (hK _ _ _ _ hv).2.2
  · exact hv.elim
theorem zt_ldcw {x : Nat} (C : zCx p l R s m args meth c M cad S0 A) (hp : zpcOf M i = pc) (hd : decode (zmCode M) pc = .ok (.ldc_w x, len)) (hck : zchk M i (pc, .ldc_w x, len, r) = true) (hv : zv (.ldc_w x) r i ls st S K)
    (hK : ∀ i1 l1 s1 S1, K i1 l1 s1 S1 → zu S1 - c0 ≤ R.cells ∧ zz S1 - z0 ≤ R.slots ∧ zGo p l e R s m args below meth c Q M cad tc D S0 A ws0 c0 z0 i1 l1 s1 S1) : zGo p l e R s m args below meth c Q M cad tc D S0 A ws0 c0 z0 i ls st S := by
  have hck : (Nat.beq len 3 && (znx M i pc 3 && (match (generalizing := false) r with
      | [0, k] => zCI.any (fun q => q.2 == (zmOwn M, x, k))
      | [1, k] => zSTR.any (fun q => (q.1, q.2.1, q.2.2.1) == (zmOwn M, x, k))
      | _ => false))) = true := hck
  obtain ⟨h1, h20⟩ := zand hck
  obtain ⟨h2, h3⟩ := zand h20
  clear h20
  obtain rfl : len = 3 := Nat.eq_of_beq_eq_true h1
  have hv : (match (generalizing := false) r with
    | [0, k] => K (i + 1) ls (.int (nI k) :: st) S
    | [1, k] => K (i + 1) ls (.ref k :: st) S
    | _ => False) := hv
  split at hv
  · exact zs_ldcw C hp hd (znx_spec h2) (zCI_at (by exact h3)) (hK _ _ _ _ hv).2.2
  · have hKw := C.2.2.2.2.2.2.2.2.2.2.2.1
    exact zs_ldcSW C hp hd (znx_spec h2) (zSTR_R hKw (by exact h3)).1 (zSTR_R hKw (by exact h3)).2 (hK _ _ _ _ hv).2.2
  · exact hv.elim
theorem zt_ldc2 {x : Nat} (C : zCx p l R s m args meth c M cad S0 A) (hp : zpcOf M i = pc) (hd : decode (zmCode M) pc = .ok (.ldc2_w x, len)) (hck : zchk M i (pc, .ldc2_w x, len, r) = true) (hv : zv (.ldc2_w x) r i ls st S K)
    (hK : ∀ i1 l1 s1 S1, K i1 l1 s1 S1 → zu S1 - c0 ≤ R.cells ∧ zz S1 - z0 ≤ R.slots ∧ zGo p l e R s m args below meth c Q M cad tc D S0 A ws0 c0 z0 i1 l1 s1 S1) : zGo p l e R s m args below meth c Q M cad tc D S0 A ws0 c0 z0 i ls st S := by
  have hck : (Nat.beq len 3 && (znx M i pc 3 && (match (generalizing := false) r with
      | [k] => zCJ.any (fun q => q.2 == (zmOwn M, x, k))
      | _ => false))) = true := hck
  obtain ⟨h1, h20⟩ := zand hck
  obtain ⟨h2, h3⟩ := zand h20
  clear h20
  obtain rfl : len = 3 := Nat.eq_of_beq_eq_true h1
  have hv : (match (generalizing := false) r with
    | [k] => K (i + 1) ls (.long (lN k) :: st) S
    | _ => False) := hv
  split at hv
  · exact zs_ldc2 C hp hd (znx_spec h2) (zCJ_at (by exact h3)) (hK _ _ _ _ hv).2.2
  · exact hv.elim
theorem zt_iload {k0 : Nat} (C : zCx p l R s m args meth c M cad S0 A) (hp : zpcOf M i = pc) (hd : decode (zmCode M) pc = .ok (.iload k0, len)) (hck : zchk M i (pc, .iload k0, len, r) = true) (hv : zv (.iload k0) r i ls st S K)
    (hK : ∀ i1 l1 s1 S1, K i1 l1 s1 S1 → zu S1 - c0 ≤ R.cells ∧ zz S1 - z0 ≤ R.slots ∧ zGo p l e R s m args below meth c Q M cad tc D S0 A ws0 c0 z0 i1 l1 s1 S1) : zGo p l e R s m args below meth c Q M cad tc D S0 A ws0 c0 z0 i ls st S := by
  have hck : (Nat.beq len 2 && znx M i pc 2) = true := hck
  obtain ⟨h1, h2⟩ := zand hck
  obtain rfl : len = 2 := Nat.eq_of_beq_eq_true h1
  have hv : zld 0 k0 i ls st S K := hv
  unfold zld at hv
  split at hv
  all_goals first
    | exact hv.elim
    | (rename_i h8 h9; exact zs_iload C hp hd (znx_spec h2) h9 (hK _ _ _ _ hv).2.2)
    | (rename_i h8 h9; cases h8)
theorem zt_istore {k0 : Nat} (C : zCx p l R s m args meth c M cad S0 A) (hp : zpcOf M i = pc) (hd : decode (zmCode M) pc = .ok (.istore k0, len)) (hck : zchk M i (pc, .istore k0, len, r) = true) (hv : zv (.istore k0) r i ls st S K)
    (hK : ∀ i1 l1 s1 S1, K i1 l1 s1 S1 → zu S1 - c0 ≤ R.cells ∧ zz S1 - z0 ≤ R.slots ∧ zGo p l e R s m args below meth c Q M cad tc D S0 A ws0 c0 z0 i1 l1 s1 S1) : zGo p l e R s m args below meth c Q M cad tc D S0 A ws0 c0 z0 i ls st S := by
  have hck : (Nat.beq len 2 && znx M i pc 2) = true := hck
  obtain ⟨h1, h2⟩ := zand hck
  obtain rfl : len = 2 := Nat.eq_of_beq_eq_true h1
  have hv : zst 0 k0 i ls st S K := hv
  unfold zst zst1 at hv
  split at hv
  all_goals first
    | exact hv.elim
    | (rename_i h8; cases h8; done)
    | (split at hv
       · rename_i hb9
         obtain ⟨h3, h4⟩ := zand hb9
         exact zs_istore C hp hd (znx_spec h2) (Nat.le_of_ble_eq_true h3) h4 (hK _ _ _ _ hv).2.2
       · exact hv.elim)
theorem zt_iload_n {k0 : Fin 4} (C : zCx p l R s m args meth c M cad S0 A) (hp : zpcOf M i = pc) (hd : decode (zmCode M) pc = .ok (.iload_n k0, len)) (hck : zchk M i (pc, .iload_n k0, len, r) = true) (hv : zv (.iload_n k0) r i ls st S K)
    (hK : ∀ i1 l1 s1 S1, K i1 l1 s1 S1 → zu S1 - c0 ≤ R.cells ∧ zz S1 - z0 ≤ R.slots ∧ zGo p l e R s m args below meth c Q M cad tc D S0 A ws0 c0 z0 i1 l1 s1 S1) : zGo p l e R s m args below meth c Q M cad tc D S0 A ws0 c0 z0 i ls st S := by
  have hck : (Nat.beq len 1 && znx M i pc 1) = true := hck
  obtain ⟨h1, h2⟩ := zand hck
  obtain rfl : len = 1 := Nat.eq_of_beq_eq_true h1
  have hv : zld 0 k0.val i ls st S K := hv
  unfold zld at hv
  split at hv
  all_goals first
    | exact hv.elim
    | (rename_i h8 h9; exact zs_iload_n C hp hd (znx_spec h2) h9 (hK _ _ _ _ hv).2.2)
    | (rename_i h8 h9; cases h8)
theorem zt_istore_n {k0 : Fin 4} (C : zCx p l R s m args meth c M cad S0 A) (hp : zpcOf M i = pc) (hd : decode (zmCode M) pc = .ok (.istore_n k0, len)) (hck : zchk M i (pc, .istore_n k0, len, r) = true) (hv : zv (.istore_n k0) r i ls st S K)
    (hK : ∀ i1 l1 s1 S1, K i1 l1 s1 S1 → zu S1 - c0 ≤ R.cells ∧ zz S1 - z0 ≤ R.slots ∧ zGo p l e R s m args below meth c Q M cad tc D S0 A ws0 c0 z0 i1 l1 s1 S1) : zGo p l e R s m args below meth c Q M cad tc D S0 A ws0 c0 z0 i ls st S := by
  have hck : (Nat.beq len 1 && znx M i pc 1) = true := hck
  obtain ⟨h1, h2⟩ := zand hck
  obtain rfl : len = 1 := Nat.eq_of_beq_eq_true h1
  have hv : zst 0 k0.val i ls st S K := hv
  unfold zst zst1 at hv
  split at hv
  all_goals first
    | exact hv.elim
    | (rename_i h8; cases h8; done)
    | (split at hv
       · rename_i hb9
         obtain ⟨h3, h4⟩ := zand hb9
         exact zs_istore_n C hp hd (znx_spec h2) (Nat.le_of_ble_eq_true h3) h4 (hK _ _ _ _ hv).2.2
       · exact hv.elim)
theorem zt_lload {k0 : Nat} (C : zCx p l R s m args meth c M cad S0 A) (hp : zpcOf M i = pc) (hd : decode (zmCode M) pc = .ok (.lload k0, len)) (hck : zchk M i (pc, .lload k0, len, r) = true) (hv : zv (.lload k0) r i ls st S K)
    (hK : ∀ i1 l1 s1 S1, K i1 l1 s1 S1 → zu S1 - c0 ≤ R.cells ∧ zz S1 - z0 ≤ R.slots ∧ zGo p l e R s m args below meth c Q M cad tc D S0 A ws0 c0 z0 i1 l1 s1 S1) : zGo p l e R s m args below meth c Q M cad tc D S0 A ws0 c0 z0 i ls st S := by
  have hck : (Nat.beq len 2 && znx M i pc 2) = true := hck
  obtain ⟨h1, h2⟩ := zand hck
  obtain rfl : len = 2 := Nat.eq_of_beq_eq_true h1
  have hv : zld 1 k0 i ls st S K := hv
  unfold zld at hv
  split at hv
  all_goals first
    | exact hv.elim
    | (rename_i h8 h9; exact zs_lload C hp hd (znx_spec h2) h9 (hK _ _ _ _ hv).2.2)
    | (rename_i h8 h9; cases h8)
theorem zt_lstore {k0 : Nat} (C : zCx p l R s m args meth c M cad S0 A) (hp : zpcOf M i = pc) (hd : decode (zmCode M) pc = .ok (.lstore k0, len)) (hck : zchk M i (pc, .lstore k0, len, r) = true) (hv : zv (.lstore k0) r i ls st S K)
    (hK : ∀ i1 l1 s1 S1, K i1 l1 s1 S1 → zu S1 - c0 ≤ R.cells ∧ zz S1 - z0 ≤ R.slots ∧ zGo p l e R s m args below meth c Q M cad tc D S0 A ws0 c0 z0 i1 l1 s1 S1) : zGo p l e R s m args below meth c Q M cad tc D S0 A ws0 c0 z0 i ls st S := by
  have hck : (Nat.beq len 2 && znx M i pc 2) = true := hck
  obtain ⟨h1, h2⟩ := zand hck
  obtain rfl : len = 2 := Nat.eq_of_beq_eq_true h1
  have hv : zst 1 k0 i ls st S K := hv
  unfold zst zst1 at hv
  split at hv
  all_goals first
    | exact hv.elim
    | (rename_i h8; cases h8; done)
    | (split at hv
       · rename_i hb9
         obtain ⟨h3, h4⟩ := zand hb9
         exact zs_lstore C hp hd (znx_spec h2) (Nat.le_of_ble_eq_true h3) h4 (hK _ _ _ _ hv).2.2
       · exact hv.elim)
theorem zt_lload_n {k0 : Fin 4} (C : zCx p l R s m args meth c M cad S0 A) (hp : zpcOf M i = pc) (hd : decode (zmCode M) pc = .ok (.lload_n k0, len)) (hck : zchk M i (pc, .lload_n k0, len, r) = true) (hv : zv (.lload_n k0) r i ls st S K)
    (hK : ∀ i1 l1 s1 S1, K i1 l1 s1 S1 → zu S1 - c0 ≤ R.cells ∧ zz S1 - z0 ≤ R.slots ∧ zGo p l e R s m args below meth c Q M cad tc D S0 A ws0 c0 z0 i1 l1 s1 S1) : zGo p l e R s m args below meth c Q M cad tc D S0 A ws0 c0 z0 i ls st S := by
  have hck : (Nat.beq len 1 && znx M i pc 1) = true := hck
  obtain ⟨h1, h2⟩ := zand hck
  obtain rfl : len = 1 := Nat.eq_of_beq_eq_true h1
  have hv : zld 1 k0.val i ls st S K := hv
  unfold zld at hv
  split at hv
  all_goals first
    | exact hv.elim
    | (rename_i h8 h9; exact zs_lload_n C hp hd (znx_spec h2) h9 (hK _ _ _ _ hv).2.2)
    | (rename_i h8 h9; cases h8)
theorem zt_lstore_n {k0 : Fin 4} (C : zCx p l R s m args meth c M cad S0 A) (hp : zpcOf M i = pc) (hd : decode (zmCode M) pc = .ok (.lstore_n k0, len)) (hck : zchk M i (pc, .lstore_n k0, len, r) = true) (hv : zv (.lstore_n k0) r i ls st S K)
    (hK : ∀ i1 l1 s1 S1, K i1 l1 s1 S1 → zu S1 - c0 ≤ R.cells ∧ zz S1 - z0 ≤ R.slots ∧ zGo p l e R s m args below meth c Q M cad tc D S0 A ws0 c0 z0 i1 l1 s1 S1) : zGo p l e R s m args below meth c Q M cad tc D S0 A ws0 c0 z0 i ls st S := by
  have hck : (Nat.beq len 1 && znx M i pc 1) = true := hck
  obtain ⟨h1, h2⟩ := zand hck
  obtain rfl : len = 1 := Nat.eq_of_beq_eq_true h1
  have hv : zst 1 k0.val i ls st S K := hv
  unfold zst zst1 at hv
  split at hv
  all_goals first
    | exact hv.elim
    | (rename_i h8; cases h8; done)
    | (split at hv
       · rename_i hb9
         obtain ⟨h3, h4⟩ := zand hb9
         exact zs_lstore_n C hp hd (znx_spec h2) (Nat.le_of_ble_eq_true h3) h4 (hK _ _ _ _ hv).2.2
       · exact hv.elim)
theorem zt_aload {k0 : Nat} (C : zCx p l R s m args meth c M cad S0 A) (hp : zpcOf M i = pc) (hd : decode (zmCode M) pc = .ok (.aload k0, len)) (hck : zchk M i (pc, .aload k0, len, r) = true) (hv : zv (.aload k0) r i ls st S K)
    (hK : ∀ i1 l1 s1 S1, K i1 l1 s1 S1 → zu S1 - c0 ≤ R.cells ∧ zz S1 - z0 ≤ R.slots ∧ zGo p l e R s m args below meth c Q M cad tc D S0 A ws0 c0 z0 i1 l1 s1 S1) : zGo p l e R s m args below meth c Q M cad tc D S0 A ws0 c0 z0 i ls st S := by
  have hck : (Nat.beq len 2 && znx M i pc 2) = true := hck
  obtain ⟨h1, h2⟩ := zand hck
  obtain rfl : len = 2 := Nat.eq_of_beq_eq_true h1
  have hv : zld 2 k0 i ls st S K := hv
  unfold zld at hv
  split at hv
  all_goals first
    | exact hv.elim
    | (rename_i h8 h9; exact zs_aload C hp hd (znx_spec h2) h9 (hK _ _ _ _ hv).2.2)
    | (rename_i h8 h9; exact zs_aloadN C hp hd (znx_spec h2) h9 (hK _ _ _ _ hv).2.2)
    | (rename_i h8 h9; cases h8)
theorem zt_astore {k0 : Nat} (C : zCx p l R s m args meth c M cad S0 A) (hp : zpcOf M i = pc) (hd : decode (zmCode M) pc = .ok (.astore k0, len)) (hck : zchk M i (pc, .astore k0, len, r) = true) (hv : zv (.astore k0) r i ls st S K)
    (hK : ∀ i1 l1 s1 S1, K i1 l1 s1 S1 → zu S1 - c0 ≤ R.cells ∧ zz S1 - z0 ≤ R.slots ∧ zGo p l e R s m args below meth c Q M cad tc D S0 A ws0 c0 z0 i1 l1 s1 S1) : zGo p l e R s m args below meth c Q M cad tc D S0 A ws0 c0 z0 i ls st S := by
  have hck : (Nat.beq len 2 && znx M i pc 2) = true := hck
  obtain ⟨h1, h2⟩ := zand hck
  obtain rfl : len = 2 := Nat.eq_of_beq_eq_true h1
  have hv : zst 2 k0 i ls st S K := hv
  unfold zst zst1 at hv
  split at hv
  all_goals first
    | exact hv.elim
    | (rename_i h8; cases h8; done)
    | (split at hv
       · rename_i hb9
         obtain ⟨h3, h4⟩ := zand hb9
         first
           | exact zs_astore C hp hd (znx_spec h2) (Nat.le_of_ble_eq_true h3) h4 (Or.inl ⟨_, rfl⟩) (hK _ _ _ _ hv).2.2
           | exact zs_astore C hp hd (znx_spec h2) (Nat.le_of_ble_eq_true h3) h4 (Or.inr (Or.inl rfl)) (hK _ _ _ _ hv).2.2
           | exact zs_astore C hp hd (znx_spec h2) (Nat.le_of_ble_eq_true h3) h4 (Or.inr (Or.inr ⟨_, rfl⟩)) (hK _ _ _ _ hv).2.2
       · exact hv.elim)
theorem zt_aload_n {k0 : Fin 4} (C : zCx p l R s m args meth c M cad S0 A) (hp : zpcOf M i = pc) (hd : decode (zmCode M) pc = .ok (.aload_n k0, len)) (hck : zchk M i (pc, .aload_n k0, len, r) = true) (hv : zv (.aload_n k0) r i ls st S K)
    (hK : ∀ i1 l1 s1 S1, K i1 l1 s1 S1 → zu S1 - c0 ≤ R.cells ∧ zz S1 - z0 ≤ R.slots ∧ zGo p l e R s m args below meth c Q M cad tc D S0 A ws0 c0 z0 i1 l1 s1 S1) : zGo p l e R s m args below meth c Q M cad tc D S0 A ws0 c0 z0 i ls st S := by
  have hck : (Nat.beq len 1 && znx M i pc 1) = true := hck
  obtain ⟨h1, h2⟩ := zand hck
  obtain rfl : len = 1 := Nat.eq_of_beq_eq_true h1
  have hv : zld 2 k0.val i ls st S K := hv
  unfold zld at hv
  split at hv
  all_goals first
    | exact hv.elim
    | (rename_i h8 h9; exact zs_aload_n C hp hd (znx_spec h2) h9 (hK _ _ _ _ hv).2.2)
    | (rename_i h8 h9; exact zs_aloadN_n C hp hd (znx_spec h2) h9 (hK _ _ _ _ hv).2.2)
    | (rename_i h8 h9; cases h8)
theorem zt_astore_n {k0 : Fin 4} (C : zCx p l R s m args meth c M cad S0 A) (hp : zpcOf M i = pc) (hd : decode (zmCode M) pc = .ok (.astore_n k0, len)) (hck : zchk M i (pc, .astore_n k0, len, r) = true) (hv : zv (.astore_n k0) r i ls st S K)
    (hK : ∀ i1 l1 s1 S1, K i1 l1 s1 S1 → zu S1 - c0 ≤ R.cells ∧ zz S1 - z0 ≤ R.slots ∧ zGo p l e R s m args below meth c Q M cad tc D S0 A ws0 c0 z0 i1 l1 s1 S1) : zGo p l e R s m args below meth c Q M cad tc D S0 A ws0 c0 z0 i ls st S := by
  have hck : (Nat.beq len 1 && znx M i pc 1) = true := hck
  obtain ⟨h1, h2⟩ := zand hck
  obtain rfl : len = 1 := Nat.eq_of_beq_eq_true h1
  have hv : zst 2 k0.val i ls st S K := hv
  unfold zst zst1 at hv
  split at hv
  all_goals first
    | exact hv.elim
    | (rename_i h8; cases h8; done)
    | (split at hv
       · rename_i hb9
         obtain ⟨h3, h4⟩ := zand hb9
         first
           | exact zs_astore_n C hp hd (znx_spec h2) (Nat.le_of_ble_eq_true h3) h4 (Or.inl ⟨_, rfl⟩) (hK _ _ _ _ hv).2.2
           | exact zs_astore_n C hp hd (znx_spec h2) (Nat.le_of_ble_eq_true h3) h4 (Or.inr (Or.inl rfl)) (hK _ _ _ _ hv).2.2
           | exact zs_astore_n C hp hd (znx_spec h2) (Nat.le_of_ble_eq_true h3) h4 (Or.inr (Or.inr ⟨_, rfl⟩)) (hK _ _ _ _ hv).2.2
       · exact hv.elim)
theorem zt_iinc {k0 : Nat} {n : Int} (C : zCx p l R s m args meth c M cad S0 A) (hp : zpcOf M i = pc) (hd : decode (zmCode M) pc = .ok (.iinc k0 n, len)) (hck : zchk M i (pc, .iinc k0 n, len, r) = true) (hv : zv (.iinc k0 n) r i ls st S K)
    (hK : ∀ i1 l1 s1 S1, K i1 l1 s1 S1 → zu S1 - c0 ≤ R.cells ∧ zz S1 - z0 ≤ R.slots ∧ zGo p l e R s m args below meth c Q M cad tc D S0 A ws0 c0 z0 i1 l1 s1 S1) : zGo p l e R s m args below meth c Q M cad tc D S0 A ws0 c0 z0 i ls st S := by
  have hck : (Nat.beq len 3 && (znx M i pc 3 && decide (Int32.ofInt n = zcst r))) = true := hck
  obtain ⟨h1, h20⟩ := zand hck
  obtain ⟨h2, h3⟩ := zand h20
  clear h20
  obtain rfl : len = 3 := Nat.eq_of_beq_eq_true h1
  have hv : (match (generalizing := false) ls[k0]? with
    | some (some (.int x)) => zst1 k0 i ls (.int (x + zcst r)) st S K
    | _ => False) := hv
  rw [← of_decide_eq_true h3] at hv
  split at hv
  · rename_i x h9
    unfold zst1 at hv
    split at hv
    · rename_i hb9
      obtain ⟨h4, h5⟩ := zand hb9
      exact zs_iinc C hp hd (znx_spec h2) h9 (Nat.le_of_ble_eq_true h4) h5 (hK _ _ _ _ hv).2.2
    · exact hv.elim
  · exact hv.elim
theorem zt_iadd (C : zCx p l R s m args meth c M cad S0 A) (hp : zpcOf M i = pc) (hd : decode (zmCode M) pc = .ok (.iadd, len)) (hck : zchk M i (pc, .iadd, len, r) = true) (hv : zv (.iadd) r i ls st S K)
    (hK : ∀ i1 l1 s1 S1, K i1 l1 s1 S1 → zu S1 - c0 ≤ R.cells ∧ zz S1 - z0 ≤ R.slots ∧ zGo p l e R s m args below meth c Q M cad tc D S0 A ws0 c0 z0 i1 l1 s1 S1) : zGo p l e R s m args below meth c Q M cad tc D S0 A ws0 c0 z0 i ls st S := by
  have hck : (Nat.beq len 1 && znx M i pc 1) = true := hck
  obtain ⟨h1, h2⟩ := zand hck
  obtain rfl : len = 1 := Nat.eq_of_beq_eq_true h1
  have hv : zbin i ls st S K (fun x y => x + y) := hv
  unfold zbin at hv
  split at hv
  · exact zs_iadd C hp hd (znx_spec h2) (hK _ _ _ _ hv).2.2
  · exact hv.elim
theorem zt_isub (C : zCx p l R s m args meth c M cad S0 A) (hp : zpcOf M i = pc) (hd : decode (zmCode M) pc = .ok (.isub, len)) (hck : zchk M i (pc, .isub, len, r) = true) (hv : zv (.isub) r i ls st S K)
    (hK : ∀ i1 l1 s1 S1, K i1 l1 s1 S1 → zu S1 - c0 ≤ R.cells ∧ zz S1 - z0 ≤ R.slots ∧ zGo p l e R s m args below meth c Q M cad tc D S0 A ws0 c0 z0 i1 l1 s1 S1) : zGo p l e R s m args below meth c Q M cad tc D S0 A ws0 c0 z0 i ls st S := by
  have hck : (Nat.beq len 1 && znx M i pc 1) = true := hck
  obtain ⟨h1, h2⟩ := zand hck
  obtain rfl : len = 1 := Nat.eq_of_beq_eq_true h1
  have hv : zbin i ls st S K (fun x y => x - y) := hv
  unfold zbin at hv
  split at hv
  · exact zs_isub C hp hd (znx_spec h2) (hK _ _ _ _ hv).2.2
  · exact hv.elim
theorem zt_imul (C : zCx p l R s m args meth c M cad S0 A) (hp : zpcOf M i = pc) (hd : decode (zmCode M) pc = .ok (.imul, len)) (hck : zchk M i (pc, .imul, len, r) = true) (hv : zv (.imul) r i ls st S K)
    (hK : ∀ i1 l1 s1 S1, K i1 l1 s1 S1 → zu S1 - c0 ≤ R.cells ∧ zz S1 - z0 ≤ R.slots ∧ zGo p l e R s m args below meth c Q M cad tc D S0 A ws0 c0 z0 i1 l1 s1 S1) : zGo p l e R s m args below meth c Q M cad tc D S0 A ws0 c0 z0 i ls st S := by
  have hck : (Nat.beq len 1 && znx M i pc 1) = true := hck
  obtain ⟨h1, h2⟩ := zand hck
  obtain rfl : len = 1 := Nat.eq_of_beq_eq_true h1
  have hv : zbin i ls st S K (fun x y => x * y) := hv
  unfold zbin at hv
  split at hv
  · exact zs_imul C hp hd (znx_spec h2) (hK _ _ _ _ hv).2.2
  · exact hv.elim
theorem zt_iand (C : zCx p l R s m args meth c M cad S0 A) (hp : zpcOf M i = pc) (hd : decode (zmCode M) pc = .ok (.iand, len)) (hck : zchk M i (pc, .iand, len, r) = true) (hv : zv (.iand) r i ls st S K)
    (hK : ∀ i1 l1 s1 S1, K i1 l1 s1 S1 → zu S1 - c0 ≤ R.cells ∧ zz S1 - z0 ≤ R.slots ∧ zGo p l e R s m args below meth c Q M cad tc D S0 A ws0 c0 z0 i1 l1 s1 S1) : zGo p l e R s m args below meth c Q M cad tc D S0 A ws0 c0 z0 i ls st S := by
  have hck : (Nat.beq len 1 && znx M i pc 1) = true := hck
  obtain ⟨h1, h2⟩ := zand hck
  obtain rfl : len = 1 := Nat.eq_of_beq_eq_true h1
  have hv : zbin i ls st S K (fun x y => x &&& y) := hv
  unfold zbin at hv
  split at hv
  · exact zs_iand C hp hd (znx_spec h2) (hK _ _ _ _ hv).2.2
  · exact hv.elim
theorem zt_ior (C : zCx p l R s m args meth c M cad S0 A) (hp : zpcOf M i = pc) (hd : decode (zmCode M) pc = .ok (.ior, len)) (hck : zchk M i (pc, .ior, len, r) = true) (hv : zv (.ior) r i ls st S K)
    (hK : ∀ i1 l1 s1 S1, K i1 l1 s1 S1 → zu S1 - c0 ≤ R.cells ∧ zz S1 - z0 ≤ R.slots ∧ zGo p l e R s m args below meth c Q M cad tc D S0 A ws0 c0 z0 i1 l1 s1 S1) : zGo p l e R s m args below meth c Q M cad tc D S0 A ws0 c0 z0 i ls st S := by
  have hck : (Nat.beq len 1 && znx M i pc 1) = true := hck
  obtain ⟨h1, h2⟩ := zand hck
  obtain rfl : len = 1 := Nat.eq_of_beq_eq_true h1
  have hv : zbin i ls st S K (fun x y => x ||| y) := hv
  unfold zbin at hv
  split at hv
  · exact zs_ior C hp hd (znx_spec h2) (hK _ _ _ _ hv).2.2
  · exact hv.elim
theorem zt_ixor (C : zCx p l R s m args meth c M cad S0 A) (hp : zpcOf M i = pc) (hd : decode (zmCode M) pc = .ok (.ixor, len)) (hck : zchk M i (pc, .ixor, len, r) = true) (hv : zv (.ixor) r i ls st S K)
    (hK : ∀ i1 l1 s1 S1, K i1 l1 s1 S1 → zu S1 - c0 ≤ R.cells ∧ zz S1 - z0 ≤ R.slots ∧ zGo p l e R s m args below meth c Q M cad tc D S0 A ws0 c0 z0 i1 l1 s1 S1) : zGo p l e R s m args below meth c Q M cad tc D S0 A ws0 c0 z0 i ls st S := by
  have hck : (Nat.beq len 1 && znx M i pc 1) = true := hck
  obtain ⟨h1, h2⟩ := zand hck
  obtain rfl : len = 1 := Nat.eq_of_beq_eq_true h1
  have hv : zbin i ls st S K (fun x y => x ^^^ y) := hv
  unfold zbin at hv
  split at hv
  · exact zs_ixor C hp hd (znx_spec h2) (hK _ _ _ _ hv).2.2
  · exact hv.elim
theorem zt_ishl (C : zCx p l R s m args meth c M cad S0 A) (hp : zpcOf M i = pc) (hd : decode (zmCode M) pc = .ok (.ishl, len)) (hck : zchk M i (pc, .ishl, len, r) = true) (hv : zv (.ishl) r i ls st S K)
    (hK : ∀ i1 l1 s1 S1, K i1 l1 s1 S1 → zu S1 - c0 ≤ R.cells ∧ zz S1 - z0 ≤ R.slots ∧ zGo p l e R s m args below meth c Q M cad tc D S0 A ws0 c0 z0 i1 l1 s1 S1) : zGo p l e R s m args below meth c Q M cad tc D S0 A ws0 c0 z0 i ls st S := by
  have hck : (Nat.beq len 1 && znx M i pc 1) = true := hck
  obtain ⟨h1, h2⟩ := zand hck
  obtain rfl : len = 1 := Nat.eq_of_beq_eq_true h1
  have hv : zbin i ls st S K (zShl) := hv
  unfold zbin at hv
  split at hv
  · exact zs_ishl C hp hd (znx_spec h2) (hK _ _ _ _ hv).2.2
  · exact hv.elim
theorem zt_ishr (C : zCx p l R s m args meth c M cad S0 A) (hp : zpcOf M i = pc) (hd : decode (zmCode M) pc = .ok (.ishr, len)) (hck : zchk M i (pc, .ishr, len, r) = true) (hv : zv (.ishr) r i ls st S K)
    (hK : ∀ i1 l1 s1 S1, K i1 l1 s1 S1 → zu S1 - c0 ≤ R.cells ∧ zz S1 - z0 ≤ R.slots ∧ zGo p l e R s m args below meth c Q M cad tc D S0 A ws0 c0 z0 i1 l1 s1 S1) : zGo p l e R s m args below meth c Q M cad tc D S0 A ws0 c0 z0 i ls st S := by
  have hck : (Nat.beq len 1 && znx M i pc 1) = true := hck
  obtain ⟨h1, h2⟩ := zand hck
  obtain rfl : len = 1 := Nat.eq_of_beq_eq_true h1
  have hv : zbin i ls st S K (zShr) := hv
  unfold zbin at hv
  split at hv
  · exact zs_ishr C hp hd (znx_spec h2) (hK _ _ _ _ hv).2.2
  · exact hv.elim
theorem zt_iushr (C : zCx p l R s m args meth c M cad S0 A) (hp : zpcOf M i = pc) (hd : decode (zmCode M) pc = .ok (.iushr, len)) (hck : zchk M i (pc, .iushr, len, r) = true) (hv : zv (.iushr) r i ls st S K)
    (hK : ∀ i1 l1 s1 S1, K i1 l1 s1 S1 → zu S1 - c0 ≤ R.cells ∧ zz S1 - z0 ≤ R.slots ∧ zGo p l e R s m args below meth c Q M cad tc D S0 A ws0 c0 z0 i1 l1 s1 S1) : zGo p l e R s m args below meth c Q M cad tc D S0 A ws0 c0 z0 i ls st S := by
  have hck : (Nat.beq len 1 && znx M i pc 1) = true := hck
  obtain ⟨h1, h2⟩ := zand hck
  obtain rfl : len = 1 := Nat.eq_of_beq_eq_true h1
  have hv : zbin i ls st S K (zUshr) := hv
  unfold zbin at hv
  split at hv
  · exact zs_iushr C hp hd (znx_spec h2) (hK _ _ _ _ hv).2.2
  · exact hv.elim
theorem zt_ladd (C : zCx p l R s m args meth c M cad S0 A) (hp : zpcOf M i = pc) (hd : decode (zmCode M) pc = .ok (.ladd, len)) (hck : zchk M i (pc, .ladd, len, r) = true) (hv : zv (.ladd) r i ls st S K)
    (hK : ∀ i1 l1 s1 S1, K i1 l1 s1 S1 → zu S1 - c0 ≤ R.cells ∧ zz S1 - z0 ≤ R.slots ∧ zGo p l e R s m args below meth c Q M cad tc D S0 A ws0 c0 z0 i1 l1 s1 S1) : zGo p l e R s m args below meth c Q M cad tc D S0 A ws0 c0 z0 i ls st S := by
  have hck : (Nat.beq len 1 && znx M i pc 1) = true := hck
  obtain ⟨h1, h2⟩ := zand hck
  obtain rfl : len = 1 := Nat.eq_of_beq_eq_true h1
  have hv : zbinL i ls st S K (fun x y => x + y) := hv
  unfold zbinL at hv
  split at hv
  · exact zs_ladd C hp hd (znx_spec h2) (hK _ _ _ _ hv).2.2
  · exact hv.elim
theorem zt_lsub (C : zCx p l R s m args meth c M cad S0 A) (hp : zpcOf M i = pc) (hd : decode (zmCode M) pc = .ok (.lsub, len)) (hck : zchk M i (pc, .lsub, len, r) = true) (hv : zv (.lsub) r i ls st S K)
    (hK : ∀ i1 l1 s1 S1, K i1 l1 s1 S1 → zu S1 - c0 ≤ R.cells ∧ zz S1 - z0 ≤ R.slots ∧ zGo p l e R s m args below meth c Q M cad tc D S0 A ws0 c0 z0 i1 l1 s1 S1) : zGo p l e R s m args below meth c Q M cad tc D S0 A ws0 c0 z0 i ls st S := by
  have hck : (Nat.beq len 1 && znx M i pc 1) = true := hck
  obtain ⟨h1, h2⟩ := zand hck
  obtain rfl : len = 1 := Nat.eq_of_beq_eq_true h1
  have hv : zbinL i ls st S K (fun x y => x - y) := hv
  unfold zbinL at hv
  split at hv
  · exact zs_lsub C hp hd (znx_spec h2) (hK _ _ _ _ hv).2.2
  · exact hv.elim
theorem zt_lmul (C : zCx p l R s m args meth c M cad S0 A) (hp : zpcOf M i = pc) (hd : decode (zmCode M) pc = .ok (.lmul, len)) (hck : zchk M i (pc, .lmul, len, r) = true) (hv : zv (.lmul) r i ls st S K)
    (hK : ∀ i1 l1 s1 S1, K i1 l1 s1 S1 → zu S1 - c0 ≤ R.cells ∧ zz S1 - z0 ≤ R.slots ∧ zGo p l e R s m args below meth c Q M cad tc D S0 A ws0 c0 z0 i1 l1 s1 S1) : zGo p l e R s m args below meth c Q M cad tc D S0 A ws0 c0 z0 i ls st S := by
  have hck : (Nat.beq len 1 && znx M i pc 1) = true := hck
  obtain ⟨h1, h2⟩ := zand hck
  obtain rfl : len = 1 := Nat.eq_of_beq_eq_true h1
  have hv : zbinL i ls st S K (fun x y => x * y) := hv
  unfold zbinL at hv
  split at hv
  · exact zs_lmul C hp hd (znx_spec h2) (hK _ _ _ _ hv).2.2
  · exact hv.elim
theorem zt_land (C : zCx p l R s m args meth c M cad S0 A) (hp : zpcOf M i = pc) (hd : decode (zmCode M) pc = .ok (.land, len)) (hck : zchk M i (pc, .land, len, r) = true) (hv : zv (.land) r i ls st S K)
    (hK : ∀ i1 l1 s1 S1, K i1 l1 s1 S1 → zu S1 - c0 ≤ R.cells ∧ zz S1 - z0 ≤ R.slots ∧ zGo p l e R s m args below meth c Q M cad tc D S0 A ws0 c0 z0 i1 l1 s1 S1) : zGo p l e R s m args below meth c Q M cad tc D S0 A ws0 c0 z0 i ls st S := by
  have hck : (Nat.beq len 1 && znx M i pc 1) = true := hck
  obtain ⟨h1, h2⟩ := zand hck
  obtain rfl : len = 1 := Nat.eq_of_beq_eq_true h1
  have hv : zbinL i ls st S K (fun x y => x &&& y) := hv
  unfold zbinL at hv
  split at hv
  · exact zs_land C hp hd (znx_spec h2) (hK _ _ _ _ hv).2.2
  · exact hv.elim
theorem zt_lor (C : zCx p l R s m args meth c M cad S0 A) (hp : zpcOf M i = pc) (hd : decode (zmCode M) pc = .ok (.lor, len)) (hck : zchk M i (pc, .lor, len, r) = true) (hv : zv (.lor) r i ls st S K)
    (hK : ∀ i1 l1 s1 S1, K i1 l1 s1 S1 → zu S1 - c0 ≤ R.cells ∧ zz S1 - z0 ≤ R.slots ∧ zGo p l e R s m args below meth c Q M cad tc D S0 A ws0 c0 z0 i1 l1 s1 S1) : zGo p l e R s m args below meth c Q M cad tc D S0 A ws0 c0 z0 i ls st S := by
  have hck : (Nat.beq len 1 && znx M i pc 1) = true := hck
  obtain ⟨h1, h2⟩ := zand hck
  obtain rfl : len = 1 := Nat.eq_of_beq_eq_true h1
  have hv : zbinL i ls st S K (fun x y => x ||| y) := hv
  unfold zbinL at hv
  split at hv
  · exact zs_lor C hp hd (znx_spec h2) (hK _ _ _ _ hv).2.2
  · exact hv.elim
theorem zt_lshl (C : zCx p l R s m args meth c M cad S0 A) (hp : zpcOf M i = pc) (hd : decode (zmCode M) pc = .ok (.lshl, len)) (hck : zchk M i (pc, .lshl, len, r) = true) (hv : zv (.lshl) r i ls st S K)
    (hK : ∀ i1 l1 s1 S1, K i1 l1 s1 S1 → zu S1 - c0 ≤ R.cells ∧ zz S1 - z0 ≤ R.slots ∧ zGo p l e R s m args below meth c Q M cad tc D S0 A ws0 c0 z0 i1 l1 s1 S1) : zGo p l e R s m args below meth c Q M cad tc D S0 A ws0 c0 z0 i ls st S := by
  have hck : (Nat.beq len 1 && znx M i pc 1) = true := hck
  obtain ⟨h1, h2⟩ := zand hck
  obtain rfl : len = 1 := Nat.eq_of_beq_eq_true h1
  have hv : zshL i ls st S K zShlL := hv
  unfold zshL at hv
  split at hv
  · exact zs_lshl C hp hd (znx_spec h2) (hK _ _ _ _ hv).2.2
  · exact hv.elim
theorem zt_lshr (C : zCx p l R s m args meth c M cad S0 A) (hp : zpcOf M i = pc) (hd : decode (zmCode M) pc = .ok (.lshr, len)) (hck : zchk M i (pc, .lshr, len, r) = true) (hv : zv (.lshr) r i ls st S K)
    (hK : ∀ i1 l1 s1 S1, K i1 l1 s1 S1 → zu S1 - c0 ≤ R.cells ∧ zz S1 - z0 ≤ R.slots ∧ zGo p l e R s m args below meth c Q M cad tc D S0 A ws0 c0 z0 i1 l1 s1 S1) : zGo p l e R s m args below meth c Q M cad tc D S0 A ws0 c0 z0 i ls st S := by
  have hck : (Nat.beq len 1 && znx M i pc 1) = true := hck
  obtain ⟨h1, h2⟩ := zand hck
  obtain rfl : len = 1 := Nat.eq_of_beq_eq_true h1
  have hv : zshL i ls st S K zShrL := hv
  unfold zshL at hv
  split at hv
  · exact zs_lshr C hp hd (znx_spec h2) (hK _ _ _ _ hv).2.2
  · exact hv.elim
theorem zt_lushr (C : zCx p l R s m args meth c M cad S0 A) (hp : zpcOf M i = pc) (hd : decode (zmCode M) pc = .ok (.lushr, len)) (hck : zchk M i (pc, .lushr, len, r) = true) (hv : zv (.lushr) r i ls st S K)
    (hK : ∀ i1 l1 s1 S1, K i1 l1 s1 S1 → zu S1 - c0 ≤ R.cells ∧ zz S1 - z0 ≤ R.slots ∧ zGo p l e R s m args below meth c Q M cad tc D S0 A ws0 c0 z0 i1 l1 s1 S1) : zGo p l e R s m args below meth c Q M cad tc D S0 A ws0 c0 z0 i ls st S := by
  have hck : (Nat.beq len 1 && znx M i pc 1) = true := hck
  obtain ⟨h1, h2⟩ := zand hck
  obtain rfl : len = 1 := Nat.eq_of_beq_eq_true h1
  have hv : zshL i ls st S K zUshrL := hv
  unfold zshL at hv
  split at hv
  · exact zs_lushr C hp hd (znx_spec h2) (hK _ _ _ _ hv).2.2
  · exact hv.elim
theorem zt_idiv (C : zCx p l R s m args meth c M cad S0 A) (hp : zpcOf M i = pc) (hd : decode (zmCode M) pc = .ok (.idiv, len)) (hck : zchk M i (pc, .idiv, len, r) = true) (hv : zv (.idiv) r i ls st S K)
    (hK : ∀ i1 l1 s1 S1, K i1 l1 s1 S1 → zu S1 - c0 ≤ R.cells ∧ zz S1 - z0 ≤ R.slots ∧ zGo p l e R s m args below meth c Q M cad tc D S0 A ws0 c0 z0 i1 l1 s1 S1) : zGo p l e R s m args below meth c Q M cad tc D S0 A ws0 c0 z0 i ls st S := by
  have hck : (Nat.beq len 1 && znx M i pc 1) = true := hck
  obtain ⟨h1, h2⟩ := zand hck
  obtain rfl : len = 1 := Nat.eq_of_beq_eq_true h1
  have hv : (match (generalizing := false) st with
    | .int y :: .int x :: t => ¬ y = 0 ∧ K (i + 1) ls (.int (x / y) :: t) S
    | _ => False) := hv
  split at hv
  · exact zs_idiv C hp hd (znx_spec h2) hv.1 (hK _ _ _ _ hv.2).2.2
  · exact hv.elim
theorem zt_irem (C : zCx p l R s m args meth c M cad S0 A) (hp : zpcOf M i = pc) (hd : decode (zmCode M) pc = .ok (.irem, len)) (hck : zchk M i (pc, .irem, len, r) = true) (hv : zv (.irem) r i ls st S K)
    (hK : ∀ i1 l1 s1 S1, K i1 l1 s1 S1 → zu S1 - c0 ≤ R.cells ∧ zz S1 - z0 ≤ R.slots ∧ zGo p l e R s m args below meth c Q M cad tc D S0 A ws0 c0 z0 i1 l1 s1 S1) : zGo p l e R s m args below meth c Q M cad tc D S0 A ws0 c0 z0 i ls st S := by
  have hck : (Nat.beq len 1 && znx M i pc 1) = true := hck
  obtain ⟨h1, h2⟩ := zand hck
  obtain rfl : len = 1 := Nat.eq_of_beq_eq_true h1
  have hv : (match (generalizing := false) st with
    | .int y :: .int x :: t => ¬ y = 0 ∧ K (i + 1) ls (.int (zRem x y) :: t) S
    | _ => False) := hv
  split at hv
  · exact zs_irem C hp hd (znx_spec h2) hv.1 (hK _ _ _ _ hv.2).2.2
  · exact hv.elim
theorem zt_ldiv (C : zCx p l R s m args meth c M cad S0 A) (hp : zpcOf M i = pc) (hd : decode (zmCode M) pc = .ok (.ldiv, len)) (hck : zchk M i (pc, .ldiv, len, r) = true) (hv : zv (.ldiv) r i ls st S K)
    (hK : ∀ i1 l1 s1 S1, K i1 l1 s1 S1 → zu S1 - c0 ≤ R.cells ∧ zz S1 - z0 ≤ R.slots ∧ zGo p l e R s m args below meth c Q M cad tc D S0 A ws0 c0 z0 i1 l1 s1 S1) : zGo p l e R s m args below meth c Q M cad tc D S0 A ws0 c0 z0 i ls st S := by
  have hck : (Nat.beq len 1 && znx M i pc 1) = true := hck
  obtain ⟨h1, h2⟩ := zand hck
  obtain rfl : len = 1 := Nat.eq_of_beq_eq_true h1
  have hv : (match (generalizing := false) st with
    | .long y :: .long x :: t => ¬ y = 0 ∧ K (i + 1) ls (.long (x / y) :: t) S
    | _ => False) := hv
  split at hv
  · exact zs_ldiv C hp hd (znx_spec h2) hv.1 (hK _ _ _ _ hv.2).2.2
  · exact hv.elim
theorem zt_lrem (C : zCx p l R s m args meth c M cad S0 A) (hp : zpcOf M i = pc) (hd : decode (zmCode M) pc = .ok (.lrem, len)) (hck : zchk M i (pc, .lrem, len, r) = true) (hv : zv (.lrem) r i ls st S K)
    (hK : ∀ i1 l1 s1 S1, K i1 l1 s1 S1 → zu S1 - c0 ≤ R.cells ∧ zz S1 - z0 ≤ R.slots ∧ zGo p l e R s m args below meth c Q M cad tc D S0 A ws0 c0 z0 i1 l1 s1 S1) : zGo p l e R s m args below meth c Q M cad tc D S0 A ws0 c0 z0 i ls st S := by
  have hck : (Nat.beq len 1 && znx M i pc 1) = true := hck
  obtain ⟨h1, h2⟩ := zand hck
  obtain rfl : len = 1 := Nat.eq_of_beq_eq_true h1
  have hv : (match (generalizing := false) st with
    | .long y :: .long x :: t => ¬ y = 0 ∧ K (i + 1) ls (.long (zRemL x y) :: t) S
    | _ => False) := hv
  split at hv
  · exact zs_lrem C hp hd (znx_spec h2) hv.1 (hK _ _ _ _ hv.2).2.2
  · exact hv.elim
theorem zt_lcmp (C : zCx p l R s m args meth c M cad S0 A) (hp : zpcOf M i = pc) (hd : decode (zmCode M) pc = .ok (.lcmp, len)) (hck : zchk M i (pc, .lcmp, len, r) = true) (hv : zv (.lcmp) r i ls st S K)
    (hK : ∀ i1 l1 s1 S1, K i1 l1 s1 S1 → zu S1 - c0 ≤ R.cells ∧ zz S1 - z0 ≤ R.slots ∧ zGo p l e R s m args below meth c Q M cad tc D S0 A ws0 c0 z0 i1 l1 s1 S1) : zGo p l e R s m args below meth c Q M cad tc D S0 A ws0 c0 z0 i ls st S := by
  have hck : (Nat.beq len 1 && znx M i pc 1) = true := hck
  obtain ⟨h1, h2⟩ := zand hck
  obtain rfl : len = 1 := Nat.eq_of_beq_eq_true h1
  have hv : (match (generalizing := false) st with
    | .long y :: .long x :: t => K (i + 1) ls (.int (lg_cmp x y) :: t) S
    | _ => False) := hv
  split at hv
  · exact zs_lcmp C hp hd (znx_spec h2) (hK _ _ _ _ hv).2.2
  · exact hv.elim
theorem zt_ineg (C : zCx p l R s m args meth c M cad S0 A) (hp : zpcOf M i = pc) (hd : decode (zmCode M) pc = .ok (.ineg, len)) (hck : zchk M i (pc, .ineg, len, r) = true) (hv : zv (.ineg) r i ls st S K)
    (hK : ∀ i1 l1 s1 S1, K i1 l1 s1 S1 → zu S1 - c0 ≤ R.cells ∧ zz S1 - z0 ≤ R.slots ∧ zGo p l e R s m args below meth c Q M cad tc D S0 A ws0 c0 z0 i1 l1 s1 S1) : zGo p l e R s m args below meth c Q M cad tc D S0 A ws0 c0 z0 i ls st S := by
  have hck : (Nat.beq len 1 && znx M i pc 1) = true := hck
  obtain ⟨h1, h2⟩ := zand hck
  obtain rfl : len = 1 := Nat.eq_of_beq_eq_true h1
  have hv : (match (generalizing := false) st with
    | .int x :: t => K (i + 1) ls (.int (-x) :: t) S
    | _ => False) := hv
  split at hv
  · exact zs_ineg C hp hd (znx_spec h2) (hK _ _ _ _ hv).2.2
  · exact hv.elim
theorem zt_i2l (C : zCx p l R s m args meth c M cad S0 A) (hp : zpcOf M i = pc) (hd : decode (zmCode M) pc = .ok (.i2l, len)) (hck : zchk M i (pc, .i2l, len, r) = true) (hv : zv (.i2l) r i ls st S K)
    (hK : ∀ i1 l1 s1 S1, K i1 l1 s1 S1 → zu S1 - c0 ≤ R.cells ∧ zz S1 - z0 ≤ R.slots ∧ zGo p l e R s m args below meth c Q M cad tc D S0 A ws0 c0 z0 i1 l1 s1 S1) : zGo p l e R s m args below meth c Q M cad tc D S0 A ws0 c0 z0 i ls st S := by
  have hck : (Nat.beq len 1 && znx M i pc 1) = true := hck
  obtain ⟨h1, h2⟩ := zand hck
  obtain rfl : len = 1 := Nat.eq_of_beq_eq_true h1
  have hv : (match (generalizing := false) st with
    | .int x :: t => K (i + 1) ls (.long x.toInt64 :: t) S
    | _ => False) := hv
  split at hv
  · exact zs_i2l C hp hd (znx_spec h2) (hK _ _ _ _ hv).2.2
  · exact hv.elim
theorem zt_l2i (C : zCx p l R s m args meth c M cad S0 A) (hp : zpcOf M i = pc) (hd : decode (zmCode M) pc = .ok (.l2i, len)) (hck : zchk M i (pc, .l2i, len, r) = true) (hv : zv (.l2i) r i ls st S K)
    (hK : ∀ i1 l1 s1 S1, K i1 l1 s1 S1 → zu S1 - c0 ≤ R.cells ∧ zz S1 - z0 ≤ R.slots ∧ zGo p l e R s m args below meth c Q M cad tc D S0 A ws0 c0 z0 i1 l1 s1 S1) : zGo p l e R s m args below meth c Q M cad tc D S0 A ws0 c0 z0 i ls st S := by
  have hck : (Nat.beq len 1 && znx M i pc 1) = true := hck
  obtain ⟨h1, h2⟩ := zand hck
  obtain rfl : len = 1 := Nat.eq_of_beq_eq_true h1
  have hv : (match (generalizing := false) st with
    | .long x :: t => K (i + 1) ls (.int x.toInt32 :: t) S
    | _ => False) := hv
  split at hv
  · exact zs_l2i C hp hd (znx_spec h2) (hK _ _ _ _ hv).2.2
  · exact hv.elim
theorem zt_i2c (C : zCx p l R s m args meth c M cad S0 A) (hp : zpcOf M i = pc) (hd : decode (zmCode M) pc = .ok (.i2c, len)) (hck : zchk M i (pc, .i2c, len, r) = true) (hv : zv (.i2c) r i ls st S K)
    (hK : ∀ i1 l1 s1 S1, K i1 l1 s1 S1 → zu S1 - c0 ≤ R.cells ∧ zz S1 - z0 ≤ R.slots ∧ zGo p l e R s m args below meth c Q M cad tc D S0 A ws0 c0 z0 i1 l1 s1 S1) : zGo p l e R s m args below meth c Q M cad tc D S0 A ws0 c0 z0 i ls st S := by
  have hck : (Nat.beq len 1 && znx M i pc 1) = true := hck
  obtain ⟨h1, h2⟩ := zand hck
  obtain rfl : len = 1 := Nat.eq_of_beq_eq_true h1
  have hv : (match (generalizing := false) st with
    | .int x :: t => K (i + 1) ls (.int (x.toUInt32 % 65536).toInt32 :: t) S
    | _ => False) := hv
  split at hv
  · exact zs_i2c C hp hd (znx_spec h2) (hK _ _ _ _ hv).2.2
  · exact hv.elim
theorem zt_dup2 (C : zCx p l R s m args meth c M cad S0 A) (hp : zpcOf M i = pc) (hd : decode (zmCode M) pc = .ok (.dup2, len)) (hck : zchk M i (pc, .dup2, len, r) = true) (hv : zv (.dup2) r i ls st S K)
    (hK : ∀ i1 l1 s1 S1, K i1 l1 s1 S1 → zu S1 - c0 ≤ R.cells ∧ zz S1 - z0 ≤ R.slots ∧ zGo p l e R s m args below meth c Q M cad tc D S0 A ws0 c0 z0 i1 l1 s1 S1) : zGo p l e R s m args below meth c Q M cad tc D S0 A ws0 c0 z0 i ls st S := by
  have hck : (Nat.beq len 1 && znx M i pc 1) = true := hck
  obtain ⟨h1, h2⟩ := zand hck
  obtain rfl : len = 1 := Nat.eq_of_beq_eq_true h1
  have hv : (match (generalizing := false) st with
    | .int y :: .ref x :: t => K (i + 1) ls (.int y :: .ref x :: .int y :: .ref x :: t) S
    | _ => False) := hv
  split at hv
  · exact zs_dup2 C hp hd (znx_spec h2) (hK _ _ _ _ hv).2.2
  · exact hv.elim
theorem zt_pop (C : zCx p l R s m args meth c M cad S0 A) (hp : zpcOf M i = pc) (hd : decode (zmCode M) pc = .ok (.pop, len)) (hck : zchk M i (pc, .pop, len, r) = true) (hv : zv (.pop) r i ls st S K)
    (hK : ∀ i1 l1 s1 S1, K i1 l1 s1 S1 → zu S1 - c0 ≤ R.cells ∧ zz S1 - z0 ≤ R.slots ∧ zGo p l e R s m args below meth c Q M cad tc D S0 A ws0 c0 z0 i1 l1 s1 S1) : zGo p l e R s m args below meth c Q M cad tc D S0 A ws0 c0 z0 i ls st S := by
  have hck : (Nat.beq len 1 && znx M i pc 1) = true := hck
  obtain ⟨h1, h2⟩ := zand hck
  obtain rfl : len = 1 := Nat.eq_of_beq_eq_true h1
  have hv : (match (generalizing := false) st with
    | .int _ :: t => K (i + 1) ls t S
    | _ => False) := hv
  split at hv
  · exact zs_pop C hp hd (znx_spec h2) (hK _ _ _ _ hv).2.2
  · exact hv.elim
end ZPlain
