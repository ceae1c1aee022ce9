/-! One plain instruction of the little machine is one of the JVM's -/
abbrev ztys (tc : Nat → ClassId) : List (ClassId × FieldType) := [(tc 100, .int), (tc 101, .long), (tc 102, .boolean), (tc 113, .object RX3), (tc 115, .object RX5), (tc 119, .object RX9)]
/-- the constants of a store are those of S0 -/
def zKon (S S0 : ZSt) : Prop := ∀ k, k < 75 → zc S k = zc S0 k ∧ zn S k = zn S0 k ∧ zI S k = zI S0 k ∧ zR S k = zR S0 k
/-- what the heap holds of the constants -/
def zKc (cad : Nat → Nat) (S0 : ZSt) (A : Nat → Prop) (U : State) (H : Heap) : Prop :=
  (∀ k, k < 75 → zc S0 k = 104 ∨ zc S0 k = 105 ∨ zc S0 k = 103 ∨ zc S0 k = 15) ∧
  (∀ k, k < 75 → (zc S0 k = 104 ∨ zc S0 k = 105) → va_T .int (cad k) (zn S0 k) (fun j => .int (zI S0 k j)) A U H) ∧
  (∀ k, k < 75 → zc S0 k = 103 → va_T .byte (cad k) (zn S0 k) (fun j => .int (zI S0 k j)) A U H) ∧
  (∀ k, k < 75 → zc S0 k = 15 → va_O "java/lang/String" (cad k) A U H ∧ va_OF "java/lang/String" "coder" "B" (.int (zI S0 k 1)) (cad k) A U H ∧ ∃ b, b < 75 ∧ zR S0 k 0 = some b ∧ va_OF "java/lang/String" "value" "[B" (.ref (cad b)) (cad k) A U H) ∧
  (∀ k, 0 < k → k < 7 → va_Z (zstat.getD k ("", "")).1 (zstat.getD k ("", "")).2 "[I" (.ref (cad k)) A U H) ∧
  (∀ k, k < 75 → zc S0 k = 104 → ∃ cell : Cell, H[cad k]? = some cell ∧ U.vm.findClass "[I" = some cell.cls ∧ cell.slots.size = zn S0 k ∧ ¬ A (cad k)) ∧
  va_Z "java/lang/String" "COMPACT_STRINGS" "Z" (.int 1) A U H ∧ va_Zq "jdk/internal/util/Preconditions" "SIOOBE_FORMATTER" "Ljava/util/function/BiFunction;" A U H ∧
  vx_Zq Bundle.tN "UNASSIGNED_STACK" Bundle.steD A U H ∧ vx_Zq Bundle.tN "SUPPRESSED_SENTINEL" Bundle.listD A U H
/-- words that aren't good, and that are kept by themselves -/
def zbw (w : Cond) : Bool := match w with
  | .castable _ _ => true
  | .declares _ => true
  | .methodLinkNest _ _ _ _ => true
  | _ => false
/-- what the tables say beside the good words -/
def zKw (cad : Nat → Nat) (U : State) : Prop :=
  (∀ q ∈ zSTR, vk_R (zcn q.1) q.2.1 q.2.2.2 (cad q.2.2.1) U) ∧ (∀ q ∈ zNL, va_Nw (zNLw q) U) ∧ va_AO RX3 U ∧ va_AO RX5 U ∧ va_AO RX9 U ∧ va_Nw (.castable "[I" "java/lang/Cloneable") U ∧
  (∀ x, x < 4 → va_Nw (.castable (zexn.getD x "") (zexn.getD x "")) U) ∧ (∀ x y, x < 4 → y < 4 → x ≠ y → va_Nc (zexn.getD x "") (zexn.getD y "") U) ∧ ∀ w ∈ lw_tbl, zbw w = true → va_Nw w U
/-- the world as a method in the middle of its work has it -/
def zWd (cad : Nat → Nat) (tc : Nat → ClassId) (D : va_G) (S0 : ZSt) (A : Nat → Prop) (s : State) (ws0 ws : va_W) (H : Heap) (locs : List Loc) (S : ZSt) : Prop :=
  va_K D vwCl (ztys tc) s ∧ va_P D vwCl ws H ∧ va_D A ws ∧ va_S A s.heap H locs ∧ zRep cad tc ws S ∧ zKon S S0 ∧ zExt ws0 ws
/-- what stays the same over a method's body -/
def zCx (p : Program) (l : Launch) (R : Room) (s : State) (m : MethodId) (args : Array Value) (meth : Method) (c : Code) (M : ZMt) (cad : Nat → Nat) (S0 : ZSt) (A : Nat → Prop) : Prop :=
  p.tables.exec = Jvm.exec ∧ c.code = zmCode M ∧ c.maxLocals = zmMaxL M ∧ s.vm.findClass (zcn (zmOwn M)) = some m.cls ∧ (∀ w ∈ zTB, w.before args s = true) ∧ meth.locks = false ∧ meth.sig.returnType = zmRet M ∧
  (zmKind M = 2 → meth.name = "<init>") ∧ l.stackTraces = false ∧ (∀ q, s.heap.size ≤ q → A q) ∧ zKc cad S0 A s s.heap ∧ zKw cad s ∧ c.exceptionTable.toList = tableOf (zmTab M) ∧ 20 ≤ R.frames ∧ 300 ≤ R.locals
/-- from here on, whatever the heap that holds the store -/
def zGo (p : Program) (l : Launch) (e : Env) (R : Room) (s : State) (m : MethodId) (args : Array Value) (below : List Frame) (meth : Method) (c : Code) (Q : State → Prop) (M : ZMt) (cad : Nat → Nat) (tc : Nat → ClassId) (D : va_G) (S0 : ZSt) (A : Nat → Prop) (ws0 : va_W) (c0 z0 : Nat)
    (i : Nat) (ls : ZLo) (st : List Value) (S : ZSt) : Prop :=
  ∀ (ws : va_W) (H : Heap) (locs : List Loc) (ar : Array Slot) (sr : List Value), zWd cad tc D S0 A s ws0 ws H locs S → zLR cad ws ls ar → ls.length = zmMaxL M → zSR cad ws st sr → c0 ≤ zu S → z0 ≤ zz S →
    W p l e R s m args below meth c H locs (zu S - c0) (zz S - z0) Q (F0 m (zpcOf M i) ar sr)
theorem zRep.put {cad : Nat → Nat} {tc : Nat → ClassId} {ws : va_W} {S S' : ZSt} {q a : Nat} {e e' : va_E} (h : zRep cad tc ws S) (hq : ws[q]? = some (a, e)) (hx : zx S' = zx S)
    (hs : ∀ k, k ≠ q + 75 → zI S' k = zI S k ∧ zL S' k = zL S k ∧ zR S' k = zR S k ∧ zn S' k = zn S k ∧ zc S' k = zc S k) (he : zE cad tc (ws.set q (a, e')) S' (q + 75) e') : zRep cad tc (ws.set q (a, e')) S' := by
  refine ⟨by rw [hx, h.1, List.length_set], fun k y hy => ?_⟩
  by_cases hk : q = k
  · subst hk
    rw [List.getElem?_set_self (List.getElem?_eq_some_iff.mp hq).1] at hy
    cases hy
    exact he
  · rw [List.getElem?_set_ne hk] at hy
    obtain ⟨h1, h2, h3, h4, h5⟩ := hs (k + 75) (by omega)
    exact ((h.2 k y hy).ext (zExt.put hq)).same h1 h2 h3 h4 h5
theorem zRep.push {cad : Nat → Nat} {tc : Nat → ClassId} {ws : va_W} {S S' : ZSt} {a : Nat} {e : va_E} (h : zRep cad tc ws S) (hx : zx S' = zx S + 1)
    (hs : ∀ k, k ≠ zx S → zI S' k = zI S k ∧ zL S' k = zL S k ∧ zR S' k = zR S k ∧ zn S' k = zn S k ∧ zc S' k = zc S k) (he : zE cad tc (ws ++ [(a, e)]) S' (zx S) e) : zRep cad tc (ws ++ [(a, e)]) S' := by
  refine ⟨by rw [hx, h.1, List.length_append]; rfl, fun k y hy => ?_⟩
  by_cases hk : k < ws.length
  · rw [List.getElem?_append_left hk] at hy
    obtain ⟨h1, h2, h3, h4, h5⟩ := hs (k + 75) (by rw [h.1]; omega)
    exact ((h.2 k y hy).ext (zExt.push _)).same h1 h2 h3 h4 h5
  · rw [List.getElem?_append_right (by omega)] at hy
    have hz : k - ws.length < 1 := (List.getElem?_eq_some_iff.mp hy).1
    rw [show k - ws.length = 0 by omega] at hy
    cases hy
    rw [show k + 75 = zx S by rw [h.1]; omega]
    exact he
theorem zup_ne {α : Type} {f : Nat → α} {k j : Nat} {v : α} (h : j ≠ k) : va_up f k v j = f j := by simp [va_up, h]
theorem zwI_o {S : ZSt} {b : Nat} {f : Nat → Int32} {k : Nat} (h : k ≠ b) : zI (zwI S b f) k = zI S k ∧ zL (zwI S b f) k = zL S k ∧ zR (zwI S b f) k = zR S k ∧ zn (zwI S b f) k = zn S k ∧ zc (zwI S b f) k = zc S k := ⟨zup_ne h, rfl, rfl, rfl, rfl⟩
theorem zwL_o {S : ZSt} {b : Nat} {f : Nat → Int64} {k : Nat} (h : k ≠ b) : zI (zwL S b f) k = zI S k ∧ zL (zwL S b f) k = zL S k ∧ zR (zwL S b f) k = zR S k ∧ zn (zwL S b f) k = zn S k ∧ zc (zwL S b f) k = zc S k := ⟨rfl, zup_ne h, rfl, rfl, rfl⟩
theorem zwR_o {S : ZSt} {b : Nat} {f : Nat → Option Nat} {k : Nat} (h : k ≠ b) : zI (zwR S b f) k = zI S k ∧ zL (zwR S b f) k = zL S k ∧ zR (zwR S b f) k = zR S k ∧ zn (zwR S b f) k = zn S k ∧ zc (zwR S b f) k = zc S k := ⟨rfl, rfl, zup_ne h, rfl, rfl⟩
theorem zNew_o {S : ZSt} {t n sl : Nat} {f : Nat → Int32} {k : Nat} (h : k ≠ zx S) : zI (zNew S t n sl f) k = zI S k ∧ zL (zNew S t n sl f) k = zL S k ∧ zR (zNew S t n sl f) k = zR S k ∧ zn (zNew S t n sl f) k = zn S k ∧ zc (zNew S t n sl f) k = zc S k := ⟨zup_ne h, zup_ne h, zup_ne h, zup_ne h, zup_ne h⟩
theorem zKon.put {S S' S0 : ZSt} {b : Nat} (h : zKon S S0) (hb : 75 ≤ b) (hs : ∀ k, k ≠ b → zI S' k = zI S k ∧ zL S' k = zL S k ∧ zR S' k = zR S k ∧ zn S' k = zn S k ∧ zc S' k = zc S k) : zKon S' S0 := fun k hk => by
  obtain ⟨h1, h2, h3, h4, h5⟩ := hs k (by omega)
  rw [h1, h3, h4, h5]
  exact h k hk
/-- a cell that is no constant has its entry in the world -/
theorem zWd.cell {cad : Nat → Nat} {tc : Nat → ClassId} {D : va_G} {S0 : ZSt} {A : Nat → Prop} {s : State} {ws0 ws : va_W} {H : Heap} {locs : List Loc} {S : ZSt} {k a : Nat} (hW : zWd cad tc D S0 A s ws0 ws H locs S) (hKc : zKc cad S0 A s s.heap) (ha : zA cad ws k a)
    (h1 : zc S k ≠ 104) (h0 : zc S k ≠ 105) (h2 : zc S k ≠ 103) (h3 : zc S k ≠ 15) : 75 ≤ k ∧ ∃ e, ws[k - 75]? = some (a, e) ∧ zE cad tc ws S k e := by
  rcases ha with ⟨hk, -⟩ | ⟨hk, e, he⟩
  · obtain ⟨-, -, -, -, -, hKn, -⟩ := hW
    rcases hKc.1 k hk with h | h | h | h <;> rw [← (hKn k hk).1] at h <;> contradiction
  · obtain ⟨-, -, -, -, hR, -, -⟩ := hW
    have := hR.2 _ _ he
    rw [show k - 75 + 75 = k by omega] at this
    exact ⟨hk, e, he, this⟩
/-- a cell of a constant's class is a constant -/
theorem zWd.const {cad : Nat → Nat} {tc : Nat → ClassId} {D : va_G} {S0 : ZSt} {A : Nat → Prop} {s : State} {ws0 ws : va_W} {H : Heap} {locs : List Loc} {S : ZSt} {k a : Nat} (hW : zWd cad tc D S0 A s ws0 ws H locs S) (ha : zA cad ws k a)
    (h : zc S k = 104 ∨ zc S k = 105 ∨ zc S k = 103 ∨ zc S k = 15) : k < 75 ∧ a = cad k ∧ zc S0 k = zc S k ∧ zn S0 k = zn S k ∧ zI S0 k = zI S k ∧ zR S0 k = zR S k := by
  rcases ha with ⟨hk, rfl⟩ | ⟨hk, e, he⟩
  · obtain ⟨-, -, -, -, -, hKn, -⟩ := hW
    obtain ⟨a1, a2, a3, a4⟩ := hKn k hk
    exact ⟨hk, rfl, a1.symm, a2.symm, a3.symm, a4.symm⟩
  · obtain ⟨-, -, -, -, hR, -, -⟩ := hW
    have hE := hR.2 _ _ he
    rw [show k - 75 + 75 = k by omega] at hE
    unfold zE at hE
    split at hE
    · obtain ⟨-, -, h3⟩ := hE
      split at h3
      · omega
      · omega
      · omega
      · exact h3.elim
    · omega
section ZSteps
variable {p : Program} {l : Launch} {e : Env} {R : Room} {s : State} {m : MethodId} {args : Array Value} {below : List Frame} {meth : Method} {c : Code} {Q : State → Prop} {M : ZMt} {cad : Nat → Nat} {tc : Nat → ClassId} {D : va_G} {S0 : ZSt} {A : Nat → Prop} {ws0 : va_W} {c0 z0 : Nat}
variable {i pc : Nat} {ls : ZLo} {st : List Value} {S : ZSt}

theorem zs_iconst {n : Int} {v : Int32} (C : zCx p l R s m args meth c M cad S0 A) (hp : zpcOf M i = pc) (hd : decode (zmCode M) pc = .ok (.iconst n, 1)) (hn : zpcOf M (i + 1) = pc + 1) (hv : Int32.ofInt n = v)
    (k : zGo p l e R s m args below meth c Q M cad tc D S0 A ws0 c0 z0 (i + 1) ls (.int v :: st) S) : zGo p l e R s m args below meth c Q M cad tc D S0 A ws0 c0 z0 i ls st S := by
  obtain ⟨hx, hb, hml, hown, hts, -⟩ := C
  intro ws H locs ar sr hW hL hl hS hc hz
  rw [hp]
  refine lv_iconst hx hb hd hv ?_
  have := k ws H locs ar (.int v :: sr) hW hL hl ⟨rfl, hS⟩ hc hz
  rwa [hn] at this
theorem zs_bipush {n : Int} {v : Int32} (C : zCx p l R s m args meth c M cad S0 A) (hp : zpcOf M i = pc) (hd : decode (zmCode M) pc = .ok (.bipush n, 2)) (hn : zpcOf M (i + 1) = pc + 2) (hv : (Int8.ofInt n).toInt32 = v)
    (k : zGo p l e R s m args below meth c Q M cad tc D S0 A ws0 c0 z0 (i + 1) ls (.int v :: st) S) : zGo p l e R s m args below meth c Q M cad tc D S0 A ws0 c0 z0 i ls st S := by
  obtain ⟨hx, hb, hml, hown, hts, -⟩ := C
  intro ws H locs ar sr hW hL hl hS hc hz
  rw [hp]
  refine lv_bipush hx hb hd hv ?_
  have := k ws H locs ar (.int v :: sr) hW hL hl ⟨rfl, hS⟩ hc hz
  rwa [hn] at this
theorem zs_sipush {n : Int} {v : Int32} (C : zCx p l R s m args meth c M cad S0 A) (hp : zpcOf M i = pc) (hd : decode (zmCode M) pc = .ok (.sipush n, 3)) (hn : zpcOf M (i + 1) = pc + 3) (hv : (Int16.ofInt n).toInt32 = v)
    (k : zGo p l e R s m args below meth c Q M cad tc D S0 A ws0 c0 z0 (i + 1) ls (.int v :: st) S) : zGo p l e R s m args below meth c Q M cad tc D S0 A ws0 c0 z0 i ls st S := by
  obtain ⟨hx, hb, hml, hown, hts, -⟩ := C
  intro ws H locs ar sr hW hL hl hS hc hz
  rw [hp]
  refine lv_sipush hx hb hd hv ?_
  have := k ws H locs ar (.int v :: sr) hW hL hl ⟨rfl, hS⟩ hc hz
  rwa [hn] at this
theorem zs_lconst {n : Fin 2} (C : zCx p l R s m args meth c M cad S0 A) (hp : zpcOf M i = pc) (hd : decode (zmCode M) pc = .ok (.lconst n, 1)) (hn : zpcOf M (i + 1) = pc + 1)
    (k : zGo p l e R s m args below meth c Q M cad tc D S0 A ws0 c0 z0 (i + 1) ls (.long (lN n.val) :: st) S) : zGo p l e R s m args below meth c Q M cad tc D S0 A ws0 c0 z0 i ls st S := by
  obtain ⟨hx, hb, hml, hown, hts, -⟩ := C
  intro ws H locs ar sr hW hL hl hS hc hz
  rw [hp]
  refine lv_lconst hx hb hd rfl ?_
  have := k ws H locs ar (.long (lN n.val) :: sr) hW hL hl ⟨rfl, hS⟩ hc hz
  rwa [hn] at this
theorem zs_null (C : zCx p l R s m args meth c M cad S0 A) (hp : zpcOf M i = pc) (hd : decode (zmCode M) pc = .ok (.aconst_null, 1)) (hn : zpcOf M (i + 1) = pc + 1)
    (k : zGo p l e R s m args below meth c Q M cad tc D S0 A ws0 c0 z0 (i + 1) ls (.null :: st) S) : zGo p l e R s m args below meth c Q M cad tc D S0 A ws0 c0 z0 i ls st S := by
  obtain ⟨hx, hb, hml, hown, hts, -⟩ := C
  intro ws H locs ar sr hW hL hl hS hc hz
  rw [hp]
  refine lv_null hx hb hd ?_
  have := k ws H locs ar (.null :: sr) hW hL hl ⟨rfl, hS⟩ hc hz
  rwa [hn] at this
theorem zs_ldc {x : Nat} {v : Int32} (C : zCx p l R s m args meth c M cad S0 A) (hp : zpcOf M i = pc) (hd : decode (zmCode M) pc = .ok (.ldc x, 2)) (hn : zpcOf M (i + 1) = pc + 2) (hw : Cond.constant (zcn (zmOwn M)) x v ∈ zTB)
    (k : zGo p l e R s m args below meth c Q M cad tc D S0 A ws0 c0 z0 (i + 1) ls (.int v :: st) S) : zGo p l e R s m args below meth c Q M cad tc D S0 A ws0 c0 z0 i ls st S := by
  obtain ⟨hx, hb, hml, hown, hts, -⟩ := C
  intro ws H locs ar sr hW hL hl hS hc hz
  rw [hp]
  refine lv_ldc hx hb hown (hts _ hw) hd ?_
  have := k ws H locs ar (.int v :: sr) hW hL hl ⟨rfl, hS⟩ hc hz
  rwa [hn] at this
theorem zs_ldcw {x : Nat} {v : Int32} (C : zCx p l R s m args meth c M cad S0 A) (hp : zpcOf M i = pc) (hd : decode (zmCode M) pc = .ok (.ldc_w x, 3)) (hn : zpcOf M (i + 1) = pc + 3) (hw : Cond.constant (zcn (zmOwn M)) x v ∈ zTB)
    (k : zGo p l e R s m args below meth c Q M cad tc D S0 A ws0 c0 z0 (i + 1) ls (.int v :: st) S) : zGo p l e R s m args below meth c Q M cad tc D S0 A ws0 c0 z0 i ls st S := by
  obtain ⟨hx, hb, hml, hown, hts, -⟩ := C
  intro ws H locs ar sr hW hL hl hS hc hz
  rw [hp]
  refine lv_ldcw hx hb hown (hts _ hw) hd ?_
  have := k ws H locs ar (.int v :: sr) hW hL hl ⟨rfl, hS⟩ hc hz
  rwa [hn] at this
theorem zs_ldc2 {x : Nat} {v : Int64} (C : zCx p l R s m args meth c M cad S0 A) (hp : zpcOf M i = pc) (hd : decode (zmCode M) pc = .ok (.ldc2_w x, 3)) (hn : zpcOf M (i + 1) = pc + 3) (hw : Cond.constantLong (zcn (zmOwn M)) x v ∈ zTB)
    (k : zGo p l e R s m args below meth c Q M cad tc D S0 A ws0 c0 z0 (i + 1) ls (.long v :: st) S) : zGo p l e R s m args below meth c Q M cad tc D S0 A ws0 c0 z0 i ls st S := by
  obtain ⟨hx, hb, hml, hown, hts, -⟩ := C
  intro ws H locs ar sr hW hL hl hS hc hz
  rw [hp]
  refine lv_ldc2 hx hb hown (hts _ hw) hd ?_
  have := k ws H locs ar (.long v :: sr) hW hL hl ⟨rfl, hS⟩ hc hz
  rwa [hn] at this
theorem zs_iload {k0 : Nat} {v : Int32} (C : zCx p l R s m args meth c M cad S0 A) (hp : zpcOf M i = pc) (hd : decode (zmCode M) pc = .ok (.iload k0, 2)) (hn : zpcOf M (i + 1) = pc + 2) (hv : ls[k0]? = some (some (.int v)))
    (k : zGo p l e R s m args below meth c Q M cad tc D S0 A ws0 c0 z0 (i + 1) ls (.int v :: st) S) : zGo p l e R s m args below meth c Q M cad tc D S0 A ws0 c0 z0 i ls st S := by
  obtain ⟨hx, hb, hml, hown, hts, -⟩ := C
  intro ws H locs ar sr hW hL hl hS hc hz
  obtain ⟨V, h8, h9⟩ := hL.load hv
  cases h8
  rw [hp]
  refine lv_iload hx hb hd h9 ?_
  have := k ws H locs ar (.int v :: sr) hW hL hl ⟨rfl, hS⟩ hc hz
  rwa [hn] at this
theorem zs_iload_n {k0 : Fin 4} {v : Int32} (C : zCx p l R s m args meth c M cad S0 A) (hp : zpcOf M i = pc) (hd : decode (zmCode M) pc = .ok (.iload_n k0, 1)) (hn : zpcOf M (i + 1) = pc + 1) (hv : ls[k0.val]? = some (some (.int v)))
    (k : zGo p l e R s m args below meth c Q M cad tc D S0 A ws0 c0 z0 (i + 1) ls (.int v :: st) S) : zGo p l e R s m args below meth c Q M cad tc D S0 A ws0 c0 z0 i ls st S := by
  obtain ⟨hx, hb, hml, hown, hts, -⟩ := C
  intro ws H locs ar sr hW hL hl hS hc hz
  obtain ⟨V, h8, h9⟩ := hL.load hv
  cases h8
  rw [hp]
  refine lv_iload_n hx hb hd rfl h9 ?_
  have := k ws H locs ar (.int v :: sr) hW hL hl ⟨rfl, hS⟩ hc hz
  rwa [hn] at this
theorem zs_lload {k0 : Nat} {v : Int64} (C : zCx p l R s m args meth c M cad S0 A) (hp : zpcOf M i = pc) (hd : decode (zmCode M) pc = .ok (.lload k0, 2)) (hn : zpcOf M (i + 1) = pc + 2) (hv : ls[k0]? = some (some (.long v)))
    (k : zGo p l e R s m args below meth c Q M cad tc D S0 A ws0 c0 z0 (i + 1) ls (.long v :: st) S) : zGo p l e R s m args below meth c Q M cad tc D S0 A ws0 c0 z0 i ls st S := by
  obtain ⟨hx, hb, hml, hown, hts, -⟩ := C
  intro ws H locs ar sr hW hL hl hS hc hz
  obtain ⟨V, h8, h9⟩ := hL.load hv
  cases h8
  rw [hp]
  refine lv_lload hx hb hd h9 ?_
  have := k ws H locs ar (.long v :: sr) hW hL hl ⟨rfl, hS⟩ hc hz
  rwa [hn] at this
theorem zs_lload_n {k0 : Fin 4} {v : Int64} (C : zCx p l R s m args meth c M cad S0 A) (hp : zpcOf M i = pc) (hd : decode (zmCode M) pc = .ok (.lload_n k0, 1)) (hn : zpcOf M (i + 1) = pc + 1) (hv : ls[k0.val]? = some (some (.long v)))
    (k : zGo p l e R s m args below meth c Q M cad tc D S0 A ws0 c0 z0 (i + 1) ls (.long v :: st) S) : zGo p l e R s m args below meth c Q M cad tc D S0 A ws0 c0 z0 i ls st S := by
  obtain ⟨hx, hb, hml, hown, hts, -⟩ := C
  intro ws H locs ar sr hW hL hl hS hc hz
  obtain ⟨V, h8, h9⟩ := hL.load hv
  cases h8
  rw [hp]
  refine lv_lload_n hx hb hd rfl h9 ?_
  have := k ws H locs ar (.long v :: sr) hW hL hl ⟨rfl, hS⟩ hc hz
  rwa [hn] at this
theorem zs_aload {k0 : Nat} {v : Nat} (C : zCx p l R s m args meth c M cad S0 A) (hp : zpcOf M i = pc) (hd : decode (zmCode M) pc = .ok (.aload k0, 2)) (hn : zpcOf M (i + 1) = pc + 2) (hv : ls[k0]? = some (some (.ref v)))
    (k : zGo p l e R s m args below meth c Q M cad tc D S0 A ws0 c0 z0 (i + 1) ls (.ref v :: st) S) : zGo p l e R s m args below meth c Q M cad tc D S0 A ws0 c0 z0 i ls st S := by
  obtain ⟨hx, hb, hml, hown, hts, -⟩ := C
  intro ws H locs ar sr hW hL hl hS hc hz
  obtain ⟨V, ⟨a, rfl, ha⟩, h9⟩ := hL.load hv
  rw [hp]
  refine lv_aload hx hb hd h9 ?_
  have := k ws H locs ar (.ref a :: sr) hW hL hl ⟨⟨a, rfl, ha⟩, hS⟩ hc hz
  rwa [hn] at this
theorem zs_aloadN {k0 : Nat} (C : zCx p l R s m args meth c M cad S0 A) (hp : zpcOf M i = pc) (hd : decode (zmCode M) pc = .ok (.aload k0, 2)) (hn : zpcOf M (i + 1) = pc + 2) (hv : ls[k0]? = some (some .null))
    (k : zGo p l e R s m args below meth c Q M cad tc D S0 A ws0 c0 z0 (i + 1) ls (.null :: st) S) : zGo p l e R s m args below meth c Q M cad tc D S0 A ws0 c0 z0 i ls st S := by
  obtain ⟨hx, hb, hml, hown, hts, -⟩ := C
  intro ws H locs ar sr hW hL hl hS hc hz
  obtain ⟨V, h8, h9⟩ := hL.load hv
  cases h8
  rw [hp]
  refine lv_aloadN hx hb hd h9 ?_
  have := k ws H locs ar (.null :: sr) hW hL hl ⟨rfl, hS⟩ hc hz
  rwa [hn] at this
theorem zs_aload_n {k0 : Fin 4} {v : Nat} (C : zCx p l R s m args meth c M cad S0 A) (hp : zpcOf M i = pc) (hd : decode (zmCode M) pc = .ok (.aload_n k0, 1)) (hn : zpcOf M (i + 1) = pc + 1) (hv : ls[k0.val]? = some (some (.ref v)))
    (k : zGo p l e R s m args below meth c Q M cad tc D S0 A ws0 c0 z0 (i + 1) ls (.ref v :: st) S) : zGo p l e R s m args below meth c Q M cad tc D S0 A ws0 c0 z0 i ls st S := by
  obtain ⟨hx, hb, hml, hown, hts, -⟩ := C
  intro ws H locs ar sr hW hL hl hS hc hz
  obtain ⟨V, ⟨a, rfl, ha⟩, h9⟩ := hL.load hv
  rw [hp]
  refine lv_aload_n hx hb hd rfl h9 ?_
  have := k ws H locs ar (.ref a :: sr) hW hL hl ⟨⟨a, rfl, ha⟩, hS⟩ hc hz
  rwa [hn] at this
theorem zs_aloadN_n {k0 : Fin 4} (C : zCx p l R s m args meth c M cad S0 A) (hp : zpcOf M i = pc) (hd : decode (zmCode M) pc = .ok (.aload_n k0, 1)) (hn : zpcOf M (i + 1) = pc + 1) (hv : ls[k0.val]? = some (some .null))
    (k : zGo p l e R s m args below meth c Q M cad tc D S0 A ws0 c0 z0 (i + 1) ls (.null :: st) S) : zGo p l e R s m args below meth c Q M cad tc D S0 A ws0 c0 z0 i ls st S := by
  obtain ⟨hx, hb, hml, hown, hts, -⟩ := C
  intro ws H locs ar sr hW hL hl hS hc hz
  obtain ⟨V, h8, h9⟩ := hL.load hv
  cases h8
  rw [hp]
  refine lv_aload_nN hx hb hd rfl h9 ?_
  have := k ws H locs ar (.null :: sr) hW hL hl ⟨rfl, hS⟩ hc hz
  rwa [hn] at this
theorem zr_istore {k0 : Nat} {v : Int32} {ar ar' : Array Slot} {rest : List Value} {H : Heap} {locs : List Loc} {cells slots : Nat} (hx : p.tables.exec = Jvm.exec) (hb : c.code = zmCode M) (hd : decode (zmCode M) pc = .ok (.istore k0, 2)) (he : storeLocals ar k0 (.int v) = some ar')
    (k : W p l e R s m args below meth c H locs cells slots Q (F0 m (pc + 2) ar' rest)) : W p l e R s m args below meth c H locs cells slots Q (F0 m pc ar (.int v :: rest)) := by
  intro T hT X
  obtain ⟨t, a, b⟩ := k T hT X
  refine ⟨t, ?_, b⟩
  jvm_step X.here [X.here.top, ↓top_set X.here.top, hx, hb, hd, he]
  first
    | exact a
    | exact ⟨rfl, a⟩
theorem zs_istore {k0 : Nat} {v : Int32} (C : zCx p l R s m args meth c M cad S0 A) (hp : zpcOf M i = pc) (hd : decode (zmCode M) pc = .ok (.istore k0, 2)) (hn : zpcOf M (i + 1) = pc + 2) (hk : k0 < ls.length) (hf : zfree ls k0 = true)
    (k : zGo p l e R s m args below meth c Q M cad tc D S0 A ws0 c0 z0 (i + 1) (ls.set k0 (some (.int v))) st S) : zGo p l e R s m args below meth c Q M cad tc D S0 A ws0 c0 z0 i ls (.int v :: st) S := by
  obtain ⟨hx, hb, hml, hown, hts, -⟩ := C
  intro ws H locs ar sr hW hL hl hS hc hz
  obtain ⟨V, sr, rfl, h8, hS1⟩ := hS.cons
  clear hS
  cases h8
  have hS := hS1
  obtain ⟨ar', he, hL'⟩ := hL.store1 (v := .int v) hk hf rfl rfl
  rw [hp]
  refine zr_istore hx hb hd he ?_
  have := k ws H locs ar' sr hW hL' (by rw [List.length_set]; exact hl) hS hc hz
  rwa [hn] at this
theorem zr_istore_n {k0 : Fin 4} {v : Int32} {ar ar' : Array Slot} {rest : List Value} {H : Heap} {locs : List Loc} {cells slots : Nat} (hx : p.tables.exec = Jvm.exec) (hb : c.code = zmCode M) (hd : decode (zmCode M) pc = .ok (.istore_n k0, 1)) (he : storeLocals ar k0.val (.int v) = some ar')
    (k : W p l e R s m args below meth c H locs cells slots Q (F0 m (pc + 1) ar' rest)) : W p l e R s m args below meth c H locs cells slots Q (F0 m pc ar (.int v :: rest)) := by
  intro T hT X
  obtain ⟨t, a, b⟩ := k T hT X
  refine ⟨t, ?_, b⟩
  jvm_step X.here [X.here.top, ↓top_set X.here.top, hx, hb, hd, he]
  first
    | exact a
    | exact ⟨rfl, a⟩
theorem zs_istore_n {k0 : Fin 4} {v : Int32} (C : zCx p l R s m args meth c M cad S0 A) (hp : zpcOf M i = pc) (hd : decode (zmCode M) pc = .ok (.istore_n k0, 1)) (hn : zpcOf M (i + 1) = pc + 1) (hk : k0.val < ls.length) (hf : zfree ls k0.val = true)
    (k : zGo p l e R s m args below meth c Q M cad tc D S0 A ws0 c0 z0 (i + 1) (ls.set k0.val (some (.int v))) st S) : zGo p l e R s m args below meth c Q M cad tc D S0 A ws0 c0 z0 i ls (.int v :: st) S := by
  obtain ⟨hx, hb, hml, hown, hts, -⟩ := C
  intro ws H locs ar sr hW hL hl hS hc hz
  obtain ⟨V, sr, rfl, h8, hS1⟩ := hS.cons
  clear hS
  cases h8
  have hS := hS1
  obtain ⟨ar', he, hL'⟩ := hL.store1 (v := .int v) hk hf rfl rfl
  rw [hp]
  refine zr_istore_n hx hb hd he ?_
  have := k ws H locs ar' sr hW hL' (by rw [List.length_set]; exact hl) hS hc hz
  rwa [hn] at this
theorem zr_lstore {k0 : Nat} {v : Int64} {ar ar' : Array Slot} {rest : List Value} {H : Heap} {locs : List Loc} {cells slots : Nat} (hx : p.tables.exec = Jvm.exec) (hb : c.code = zmCode M) (hd : decode (zmCode M) pc = .ok (.lstore k0, 2)) (he : storeLocals ar k0 (.long v) = some ar')
    (k : W p l e R s m args below meth c H locs cells slots Q (F0 m (pc + 2) ar' rest)) : W p l e R s m args below meth c H locs cells slots Q (F0 m pc ar (.long v :: rest)) := by
  intro T hT X
  obtain ⟨t, a, b⟩ := k T hT X
  refine ⟨t, ?_, b⟩
  jvm_step X.here [X.here.top, ↓top_set X.here.top, hx, hb, hd, he]
  first
    | exact a
    | exact ⟨rfl, a⟩
theorem zs_lstore {k0 : Nat} {v : Int64} (C : zCx p l R s m args meth c M cad S0 A) (hp : zpcOf M i = pc) (hd : decode (zmCode M) pc = .ok (.lstore k0, 2)) (hn : zpcOf M (i + 1) = pc + 2) (hk : k0 + 1 < ls.length) (hf : zfree ls k0 = true)
    (k : zGo p l e R s m args below meth c Q M cad tc D S0 A ws0 c0 z0 (i + 1) ((ls.set k0 (some (.long v))).set (k0 + 1) none) st S) : zGo p l e R s m args below meth c Q M cad tc D S0 A ws0 c0 z0 i ls (.long v :: st) S := by
  obtain ⟨hx, hb, hml, hown, hts, -⟩ := C
  intro ws H locs ar sr hW hL hl hS hc hz
  obtain ⟨V, sr, rfl, h8, hS1⟩ := hS.cons
  clear hS
  cases h8
  have hS := hS1
  obtain ⟨ar', he, hL'⟩ := hL.store2 (x := v) hk hf
  rw [hp]
  refine zr_lstore hx hb hd he ?_
  have := k ws H locs ar' sr hW hL' (by rw [List.length_set, List.length_set]; exact hl) hS hc hz
  rwa [hn] at this
theorem zr_lstore_n {k0 : Fin 4} {v : Int64} {ar ar' : Array Slot} {rest : List Value} {H : Heap} {locs : List Loc} {cells slots : Nat} (hx : p.tables.exec = Jvm.exec) (hb : c.code = zmCode M) (hd : decode (zmCode M) pc = .ok (.lstore_n k0, 1)) (he : storeLocals ar k0.val (.long v) = some ar')
    (k : W p l e R s m args below meth c H locs cells slots Q (F0 m (pc + 1) ar' rest)) : W p l e R s m args below meth c H locs cells slots Q (F0 m pc ar (.long v :: rest)) := by
  intro T hT X
  obtain ⟨t, a, b⟩ := k T hT X
  refine ⟨t, ?_, b⟩
  jvm_step X.here [X.here.top, ↓top_set X.here.top, hx, hb, hd, he]
  first
    | exact a
    | exact ⟨rfl, a⟩
theorem zs_lstore_n {k0 : Fin 4} {v : Int64} (C : zCx p l R s m args meth c M cad S0 A) (hp : zpcOf M i = pc) (hd : decode (zmCode M) pc = .ok (.lstore_n k0, 1)) (hn : zpcOf M (i + 1) = pc + 1) (hk : k0.val + 1 < ls.length) (hf : zfree ls k0.val = true)
    (k : zGo p l e R s m args below meth c Q M cad tc D S0 A ws0 c0 z0 (i + 1) ((ls.set k0.val (some (.long v))).set (k0.val + 1) none) st S) : zGo p l e R s m args below meth c Q M cad tc D S0 A ws0 c0 z0 i ls (.long v :: st) S := by
  obtain ⟨hx, hb, hml, hown, hts, -⟩ := C
  intro ws H locs ar sr hW hL hl hS hc hz
  obtain ⟨V, sr, rfl, h8, hS1⟩ := hS.cons
  clear hS
  cases h8
  have hS := hS1
  obtain ⟨ar', he, hL'⟩ := hL.store2 (x := v) hk hf
  rw [hp]
  refine zr_lstore_n hx hb hd he ?_
  have := k ws H locs ar' sr hW hL' (by rw [List.length_set, List.length_set]; exact hl) hS hc hz
  rwa [hn] at this
theorem zr_astore {k0 : Nat} {v : Nat} {ar ar' : Array Slot} {rest : List Value} {H : Heap} {locs : List Loc} {cells slots : Nat} (hx : p.tables.exec = Jvm.exec) (hb : c.code = zmCode M) (hd : decode (zmCode M) pc = .ok (.astore k0, 2)) (he : storeLocals ar k0 (.ref v) = some ar')
    (k : W p l e R s m args below meth c H locs cells slots Q (F0 m (pc + 2) ar' rest)) : W p l e R s m args below meth c H locs cells slots Q (F0 m pc ar (.ref v :: rest)) := by
  intro T hT X
  obtain ⟨t, a, b⟩ := k T hT X
  refine ⟨t, ?_, b⟩
  jvm_step X.here [X.here.top, ↓top_set X.here.top, hx, hb, hd, he]
  first
    | exact a
    | exact ⟨rfl, a⟩
theorem zr_astoreN {k0 : Nat} {ar ar' : Array Slot} {rest : List Value} {H : Heap} {locs : List Loc} {cells slots : Nat} (hx : p.tables.exec = Jvm.exec) (hb : c.code = zmCode M) (hd : decode (zmCode M) pc = .ok (.astore k0, 2)) (he : storeLocals ar k0 (.null) = some ar')
    (k : W p l e R s m args below meth c H locs cells slots Q (F0 m (pc + 2) ar' rest)) : W p l e R s m args below meth c H locs cells slots Q (F0 m pc ar (.null :: rest)) := by
  intro T hT X
  obtain ⟨t, a, b⟩ := k T hT X
  refine ⟨t, ?_, b⟩
  jvm_step X.here [X.here.top, ↓top_set X.here.top, hx, hb, hd, he]
  first
    | exact a
    | exact ⟨rfl, a⟩
theorem zs_astore {k0 : Nat} {v : Value} (C : zCx p l R s m args meth c M cad S0 A) (hp : zpcOf M i = pc) (hd : decode (zmCode M) pc = .ok (.astore k0, 2)) (hn : zpcOf M (i + 1) = pc + 2) (hk : k0 < ls.length) (hf : zfree ls k0 = true)
    (hv : (∃ a, v = .ref a) ∨ v = .null ∨ ∃ b, v = .float b) (k : zGo p l e R s m args below meth c Q M cad tc D S0 A ws0 c0 z0 (i + 1) (ls.set k0 (some v)) st S) : zGo p l e R s m args below meth c Q M cad tc D S0 A ws0 c0 z0 i ls (v :: st) S := by
  obtain ⟨hx, hb, hml, hown, hts, -⟩ := C
  intro ws H locs ar sr hW hL hl hS hc hz
  obtain ⟨V, sr, rfl, h8, hS⟩ := hS.cons
  have hV : V = .null ∨ ∃ q, V = .ref q := by
    rcases hv with ⟨a, rfl⟩ | rfl | ⟨b, rfl⟩
    · obtain ⟨q, e, -⟩ := h8
      exact Or.inr ⟨q, e⟩
    · exact Or.inl h8
    · exact h8
  obtain ⟨ar', he, hL'⟩ := hL.store1 (v := v) hk hf h8 (by rcases hV with rfl | ⟨q, rfl⟩ <;> rfl)
  have := k ws H locs ar' sr hW hL' (by rw [List.length_set]; exact hl) hS hc hz
  rw [hn] at this
  rw [hp]
  rcases hV with rfl | ⟨q, rfl⟩
  · exact zr_astoreN hx hb hd he this
  · exact zr_astore hx hb hd he this
theorem zr_astore_n {k0 : Fin 4} {v : Nat} {ar ar' : Array Slot} {rest : List Value} {H : Heap} {locs : List Loc} {cells slots : Nat} (hx : p.tables.exec = Jvm.exec) (hb : c.code = zmCode M) (hd : decode (zmCode M) pc = .ok (.astore_n k0, 1)) (he : storeLocals ar k0.val (.ref v) = some ar')
    (k : W p l e R s m args below meth c H locs cells slots Q (F0 m (pc + 1) ar' rest)) : W p l e R s m args below meth c H locs cells slots Q (F0 m pc ar (.ref v :: rest)) := by
  intro T hT X
  obtain ⟨t, a, b⟩ := k T hT X
  refine ⟨t, ?_, b⟩
  jvm_step X.here [X.here.top, ↓top_set X.here.top, hx, hb, hd, he]
  first
    | exact a
    | exact ⟨rfl, a⟩
theorem zr_astore_nN {k0 : Fin 4} {ar ar' : Array Slot} {rest : List Value} {H : Heap} {locs : List Loc} {cells slots : Nat} (hx : p.tables.exec = Jvm.exec) (hb : c.code = zmCode M) (hd : decode (zmCode M) pc = .ok (.astore_n k0, 1)) (he : storeLocals ar k0.val (.null) = some ar')
    (k : W p l e R s m args below meth c H locs cells slots Q (F0 m (pc + 1) ar' rest)) : W p l e R s m args below meth c H locs cells slots Q (F0 m pc ar (.null :: rest)) := by
  intro T hT X
  obtain ⟨t, a, b⟩ := k T hT X
  refine ⟨t, ?_, b⟩
  jvm_step X.here [X.here.top, ↓top_set X.here.top, hx, hb, hd, he]
  first
    | exact a
    | exact ⟨rfl, a⟩
theorem zs_astore_n {k0 : Fin 4} {v : Value} (C : zCx p l R s m args meth c M cad S0 A) (hp : zpcOf M i = pc) (hd : decode (zmCode M) pc = .ok (.astore_n k0, 1)) (hn : zpcOf M (i + 1) = pc + 1) (hk : k0.val < ls.length) (hf : zfree ls k0.val = true)
    (hv : (∃ a, v = .ref a) ∨ v = .null ∨ ∃ b, v = .float b) (k : zGo p l e R s m args below meth c Q M cad tc D S0 A ws0 c0 z0 (i + 1) (ls.set k0.val (some v)) st S) : zGo p l e R s m args below meth c Q M cad tc D S0 A ws0 c0 z0 i ls (v :: st) S := by
  obtain ⟨hx, hb, hml, hown, hts, -⟩ := C
  intro ws H locs ar sr hW hL hl hS hc hz
  obtain ⟨V, sr, rfl, h8, hS⟩ := hS.cons
  have hV : V = .null ∨ ∃ q, V = .ref q := by
    rcases hv with ⟨a, rfl⟩ | rfl | ⟨b, rfl⟩
    · obtain ⟨q, e, -⟩ := h8
      exact Or.inr ⟨q, e⟩
    · exact Or.inl h8
    · exact h8
  obtain ⟨ar', he, hL'⟩ := hL.store1 (v := v) hk hf h8 (by rcases hV with rfl | ⟨q, rfl⟩ <;> rfl)
  have := k ws H locs ar' sr hW hL' (by rw [List.length_set]; exact hl) hS hc hz
  rw [hn] at this
  rw [hp]
  rcases hV with rfl | ⟨q, rfl⟩
  · exact zr_astore_nN hx hb hd he this
  · exact zr_astore_n hx hb hd he this
theorem zs_iinc {k0 : Nat} {n : Int} {v : Int32} (C : zCx p l R s m args meth c M cad S0 A) (hp : zpcOf M i = pc) (hd : decode (zmCode M) pc = .ok (.iinc k0 n, 3)) (hn : zpcOf M (i + 1) = pc + 3) (hv : ls[k0]? = some (some (.int v))) (hk : k0 < ls.length) (hf : zfree ls k0 = true)
    (k : zGo p l e R s m args below meth c Q M cad tc D S0 A ws0 c0 z0 (i + 1) (ls.set k0 (some (.int (v + Int32.ofInt n)))) st S) : zGo p l e R s m args below meth c Q M cad tc D S0 A ws0 c0 z0 i ls st S := by
  obtain ⟨hx, hb, hml, hown, hts, -⟩ := C
  intro ws H locs ar sr hW hL hl hS hc hz
  obtain ⟨V, h8, hg⟩ := hL.load hv
  cases h8
  obtain ⟨ar', he, hL'⟩ := hL.store1 (v := .int (v + Int32.ofInt n)) hk hf rfl rfl
  have hk9 := k ws H locs ar' sr hW hL' (by rw [List.length_set]; exact hl) hS hc hz
  rw [hn] at hk9
  rw [hp]
  intro T hT X
  obtain ⟨t, a, b⟩ := hk9 T hT X
  refine ⟨t, ?_, b⟩
  jvm_step X.here [X.here.top, ↓top_set X.here.top, hx, hb, hd, hg, he]
  exact a
theorem zs_ineg {x : Int32} (C : zCx p l R s m args meth c M cad S0 A) (hp : zpcOf M i = pc) (hd : decode (zmCode M) pc = .ok (.ineg, 1)) (hn : zpcOf M (i + 1) = pc + 1) (k : zGo p l e R s m args below meth c Q M cad tc D S0 A ws0 c0 z0 (i + 1) ls (.int (-x) :: st) S) : zGo p l e R s m args below meth c Q M cad tc D S0 A ws0 c0 z0 i ls (.int x :: st) S := by
  obtain ⟨hx, hb, hml, hown, hts, -⟩ := C
  intro ws H locs ar sr hW hL hl hS hc hz
  obtain ⟨V, sr, rfl, h8, hS1⟩ := hS.cons
  clear hS
  cases h8
  have hS := hS1
  rw [hp]
  refine lv_ineg hx hb hd ?_
  have := k ws H locs ar (.int (-x) :: sr) hW hL hl ⟨rfl, hS⟩ hc hz
  rwa [hn] at this
theorem zs_i2l {x : Int32} (C : zCx p l R s m args meth c M cad S0 A) (hp : zpcOf M i = pc) (hd : decode (zmCode M) pc = .ok (.i2l, 1)) (hn : zpcOf M (i + 1) = pc + 1) (k : zGo p l e R s m args below meth c Q M cad tc D S0 A ws0 c0 z0 (i + 1) ls (.long x.toInt64 :: st) S) : zGo p l e R s m args below meth c Q M cad tc D S0 A ws0 c0 z0 i ls (.int x :: st) S := by
  obtain ⟨hx, hb, hml, hown, hts, -⟩ := C
  intro ws H locs ar sr hW hL hl hS hc hz
  obtain ⟨V, sr, rfl, h8, hS1⟩ := hS.cons
  clear hS
  cases h8
  have hS := hS1
  rw [hp]
  refine lv_i2l hx hb hd rfl ?_
  have := k ws H locs ar (.long x.toInt64 :: sr) hW hL hl ⟨rfl, hS⟩ hc hz
  rwa [hn] at this
theorem zs_l2i {x : Int64} (C : zCx p l R s m args meth c M cad S0 A) (hp : zpcOf M i = pc) (hd : decode (zmCode M) pc = .ok (.l2i, 1)) (hn : zpcOf M (i + 1) = pc + 1) (k : zGo p l e R s m args below meth c Q M cad tc D S0 A ws0 c0 z0 (i + 1) ls (.int x.toInt32 :: st) S) : zGo p l e R s m args below meth c Q M cad tc D S0 A ws0 c0 z0 i ls (.long x :: st) S := by
  obtain ⟨hx, hb, hml, hown, hts, -⟩ := C
  intro ws H locs ar sr hW hL hl hS hc hz
  obtain ⟨V, sr, rfl, h8, hS1⟩ := hS.cons
  clear hS
  cases h8
  have hS := hS1
  rw [hp]
  refine lv_l2i hx hb hd rfl ?_
  have := k ws H locs ar (.int x.toInt32 :: sr) hW hL hl ⟨rfl, hS⟩ hc hz
  rwa [hn] at this
theorem zs_i2c {x : Int32} (C : zCx p l R s m args meth c M cad S0 A) (hp : zpcOf M i = pc) (hd : decode (zmCode M) pc = .ok (.i2c, 1)) (hn : zpcOf M (i + 1) = pc + 1) (k : zGo p l e R s m args below meth c Q M cad tc D S0 A ws0 c0 z0 (i + 1) ls (.int (x.toUInt32 % 65536).toInt32 :: st) S) : zGo p l e R s m args below meth c Q M cad tc D S0 A ws0 c0 z0 i ls (.int x :: st) S := by
  obtain ⟨hx, hb, hml, hown, hts, -⟩ := C
  intro ws H locs ar sr hW hL hl hS hc hz
  obtain ⟨V, sr, rfl, h8, hS1⟩ := hS.cons
  clear hS
  cases h8
  have hS := hS1
  rw [hp]
  refine lv_i2c hx hb hd rfl ?_
  have := k ws H locs ar (.int (x.toUInt32 % 65536).toInt32 :: sr) hW hL hl ⟨rfl, hS⟩ hc hz
  rwa [hn] at this
theorem zs_iadd {x y : Int32} (C : zCx p l R s m args meth c M cad S0 A) (hp : zpcOf M i = pc) (hd : decode (zmCode M) pc = .ok (.iadd, 1)) (hn : zpcOf M (i + 1) = pc + 1) (k : zGo p l e R s m args below meth c Q M cad tc D S0 A ws0 c0 z0 (i + 1) ls (.int (x + y) :: st) S) : zGo p l e R s m args below meth c Q M cad tc D S0 A ws0 c0 z0 i ls (.int y :: .int x :: st) S := by
  obtain ⟨hx, hb, hml, hown, hts, -⟩ := C
  intro ws H locs ar sr hW hL hl hS hc hz
  obtain ⟨V, sr, rfl, h8, hS1⟩ := hS.cons
  clear hS
  obtain ⟨V1, sr, rfl, h9, hS⟩ := hS1.cons
  clear hS1
  cases h8
  cases h9
  rw [hp]
  refine lv_iadd hx hb hd ?_
  have := k ws H locs ar (.int (x + y) :: sr) hW hL hl ⟨rfl, hS⟩ hc hz
  rwa [hn] at this
theorem zs_isub {x y : Int32} (C : zCx p l R s m args meth c M cad S0 A) (hp : zpcOf M i = pc) (hd : decode (zmCode M) pc = .ok (.isub, 1)) (hn : zpcOf M (i + 1) = pc + 1) (k : zGo p l e R s m args below meth c Q M cad tc D S0 A ws0 c0 z0 (i + 1) ls (.int (x - y) :: st) S) : zGo p l e R s m args below meth c Q M cad tc D S0 A ws0 c0 z0 i ls (.int y :: .int x :: st) S := by
  obtain ⟨hx, hb, hml, hown, hts, -⟩ := C
  intro ws H locs ar sr hW hL hl hS hc hz
  obtain ⟨V, sr, rfl, h8, hS1⟩ := hS.cons
  clear hS
  obtain ⟨V1, sr, rfl, h9, hS⟩ := hS1.cons
  clear hS1
  cases h8
  cases h9
  rw [hp]
  refine lv_isub hx hb hd ?_
  have := k ws H locs ar (.int (x - y) :: sr) hW hL hl ⟨rfl, hS⟩ hc hz
  rwa [hn] at this
theorem zs_imul {x y : Int32} (C : zCx p l R s m args meth c M cad S0 A) (hp : zpcOf M i = pc) (hd : decode (zmCode M) pc = .ok (.imul, 1)) (hn : zpcOf M (i + 1) = pc + 1) (k : zGo p l e R s m args below meth c Q M cad tc D S0 A ws0 c0 z0 (i + 1) ls (.int (x * y) :: st) S) : zGo p l e R s m args below meth c Q M cad tc D S0 A ws0 c0 z0 i ls (.int y :: .int x :: st) S := by
  obtain ⟨hx, hb, hml, hown, hts, -⟩ := C
  intro ws H locs ar sr hW hL hl hS hc hz
  obtain ⟨V, sr, rfl, h8, hS1⟩ := hS.cons
  clear hS
  obtain ⟨V1, sr, rfl, h9, hS⟩ := hS1.cons
  clear hS1
  cases h8
  cases h9
  rw [hp]
  refine lv_imul hx hb hd ?_
  have := k ws H locs ar (.int (x * y) :: sr) hW hL hl ⟨rfl, hS⟩ hc hz
  rwa [hn] at this
theorem zs_iand {x y : Int32} (C : zCx p l R s m args meth c M cad S0 A) (hp : zpcOf M i = pc) (hd : decode (zmCode M) pc = .ok (.iand, 1)) (hn : zpcOf M (i + 1) = pc + 1) (k : zGo p l e R s m args below meth c Q M cad tc D S0 A ws0 c0 z0 (i + 1) ls (.int (x &&& y) :: st) S) : zGo p l e R s m args below meth c Q M cad tc D S0 A ws0 c0 z0 i ls (.int y :: .int x :: st) S := by
  obtain ⟨hx, hb, hml, hown, hts, -⟩ := C
  intro ws H locs ar sr hW hL hl hS hc hz
  obtain ⟨V, sr, rfl, h8, hS1⟩ := hS.cons
  clear hS
  obtain ⟨V1, sr, rfl, h9, hS⟩ := hS1.cons
  clear hS1
  cases h8
  cases h9
  rw [hp]
  refine lv_iand hx hb hd ?_
  have := k ws H locs ar (.int (x &&& y) :: sr) hW hL hl ⟨rfl, hS⟩ hc hz
  rwa [hn] at this
theorem zs_ior {x y : Int32} (C : zCx p l R s m args meth c M cad S0 A) (hp : zpcOf M i = pc) (hd : decode (zmCode M) pc = .ok (.ior, 1)) (hn : zpcOf M (i + 1) = pc + 1) (k : zGo p l e R s m args below meth c Q M cad tc D S0 A ws0 c0 z0 (i + 1) ls (.int (x ||| y) :: st) S) : zGo p l e R s m args below meth c Q M cad tc D S0 A ws0 c0 z0 i ls (.int y :: .int x :: st) S := by
  obtain ⟨hx, hb, hml, hown, hts, -⟩ := C
  intro ws H locs ar sr hW hL hl hS hc hz
  obtain ⟨V, sr, rfl, h8, hS1⟩ := hS.cons
  clear hS
  obtain ⟨V1, sr, rfl, h9, hS⟩ := hS1.cons
  clear hS1
  cases h8
  cases h9
  rw [hp]
  refine lv_ior hx hb hd ?_
  have := k ws H locs ar (.int (x ||| y) :: sr) hW hL hl ⟨rfl, hS⟩ hc hz
  rwa [hn] at this
theorem zs_ixor {x y : Int32} (C : zCx p l R s m args meth c M cad S0 A) (hp : zpcOf M i = pc) (hd : decode (zmCode M) pc = .ok (.ixor, 1)) (hn : zpcOf M (i + 1) = pc + 1) (k : zGo p l e R s m args below meth c Q M cad tc D S0 A ws0 c0 z0 (i + 1) ls (.int (x ^^^ y) :: st) S) : zGo p l e R s m args below meth c Q M cad tc D S0 A ws0 c0 z0 i ls (.int y :: .int x :: st) S := by
  obtain ⟨hx, hb, hml, hown, hts, -⟩ := C
  intro ws H locs ar sr hW hL hl hS hc hz
  obtain ⟨V, sr, rfl, h8, hS1⟩ := hS.cons
  clear hS
  obtain ⟨V1, sr, rfl, h9, hS⟩ := hS1.cons
  clear hS1
  cases h8
  cases h9
  rw [hp]
  refine lv_ixor hx hb hd ?_
  have := k ws H locs ar (.int (x ^^^ y) :: sr) hW hL hl ⟨rfl, hS⟩ hc hz
  rwa [hn] at this
theorem zs_ishl {x y : Int32} (C : zCx p l R s m args meth c M cad S0 A) (hp : zpcOf M i = pc) (hd : decode (zmCode M) pc = .ok (.ishl, 1)) (hn : zpcOf M (i + 1) = pc + 1) (k : zGo p l e R s m args below meth c Q M cad tc D S0 A ws0 c0 z0 (i + 1) ls (.int (zShl x y) :: st) S) : zGo p l e R s m args below meth c Q M cad tc D S0 A ws0 c0 z0 i ls (.int y :: .int x :: st) S := by
  obtain ⟨hx, hb, hml, hown, hts, -⟩ := C
  intro ws H locs ar sr hW hL hl hS hc hz
  obtain ⟨V, sr, rfl, h8, hS1⟩ := hS.cons
  clear hS
  obtain ⟨V1, sr, rfl, h9, hS⟩ := hS1.cons
  clear hS1
  cases h8
  cases h9
  rw [hp]
  refine lv_ishl hx hb hd ?_
  have := k ws H locs ar (.int (zShl x y) :: sr) hW hL hl ⟨rfl, hS⟩ hc hz
  rwa [hn] at this
theorem zs_ishr {x y : Int32} (C : zCx p l R s m args meth c M cad S0 A) (hp : zpcOf M i = pc) (hd : decode (zmCode M) pc = .ok (.ishr, 1)) (hn : zpcOf M (i + 1) = pc + 1) (k : zGo p l e R s m args below meth c Q M cad tc D S0 A ws0 c0 z0 (i + 1) ls (.int (zShr x y) :: st) S) : zGo p l e R s m args below meth c Q M cad tc D S0 A ws0 c0 z0 i ls (.int y :: .int x :: st) S := by
  obtain ⟨hx, hb, hml, hown, hts, -⟩ := C
  intro ws H locs ar sr hW hL hl hS hc hz
  obtain ⟨V, sr, rfl, h8, hS1⟩ := hS.cons
  clear hS
  obtain ⟨V1, sr, rfl, h9, hS⟩ := hS1.cons
  clear hS1
  cases h8
  cases h9
  rw [hp]
  refine lv_ishr hx hb hd ?_
  have := k ws H locs ar (.int (zShr x y) :: sr) hW hL hl ⟨rfl, hS⟩ hc hz
  rwa [hn] at this
theorem zs_iushr {x y : Int32} (C : zCx p l R s m args meth c M cad S0 A) (hp : zpcOf M i = pc) (hd : decode (zmCode M) pc = .ok (.iushr, 1)) (hn : zpcOf M (i + 1) = pc + 1) (k : zGo p l e R s m args below meth c Q M cad tc D S0 A ws0 c0 z0 (i + 1) ls (.int (zUshr x y) :: st) S) : zGo p l e R s m args below meth c Q M cad tc D S0 A ws0 c0 z0 i ls (.int y :: .int x :: st) S := by
  obtain ⟨hx, hb, hml, hown, hts, -⟩ := C
  intro ws H locs ar sr hW hL hl hS hc hz
  obtain ⟨V, sr, rfl, h8, hS1⟩ := hS.cons
  clear hS
  obtain ⟨V1, sr, rfl, h9, hS⟩ := hS1.cons
  clear hS1
  cases h8
  cases h9
  rw [hp]
  refine lv_iushr hx hb hd rfl ?_
  have := k ws H locs ar (.int (zUshr x y) :: sr) hW hL hl ⟨rfl, hS⟩ hc hz
  rwa [hn] at this
theorem zs_idiv {x y : Int32} (C : zCx p l R s m args meth c M cad S0 A) (hp : zpcOf M i = pc) (hd : decode (zmCode M) pc = .ok (.idiv, 1)) (hn : zpcOf M (i + 1) = pc + 1) (h0 : ¬ y = 0) (k : zGo p l e R s m args below meth c Q M cad tc D S0 A ws0 c0 z0 (i + 1) ls (.int (x / y) :: st) S) : zGo p l e R s m args below meth c Q M cad tc D S0 A ws0 c0 z0 i ls (.int y :: .int x :: st) S := by
  obtain ⟨hx, hb, hml, hown, hts, -⟩ := C
  intro ws H locs ar sr hW hL hl hS hc hz
  obtain ⟨V, sr, rfl, h8, hS1⟩ := hS.cons
  clear hS
  obtain ⟨V1, sr, rfl, h9, hS⟩ := hS1.cons
  clear hS1
  cases h8
  cases h9
  rw [hp]
  refine lv_idiv hx hb hd h0 ?_
  have := k ws H locs ar (.int (x / y) :: sr) hW hL hl ⟨rfl, hS⟩ hc hz
  rwa [hn] at this
theorem zs_irem {x y : Int32} (C : zCx p l R s m args meth c M cad S0 A) (hp : zpcOf M i = pc) (hd : decode (zmCode M) pc = .ok (.irem, 1)) (hn : zpcOf M (i + 1) = pc + 1) (h0 : ¬ y = 0) (k : zGo p l e R s m args below meth c Q M cad tc D S0 A ws0 c0 z0 (i + 1) ls (.int (zRem x y) :: st) S) : zGo p l e R s m args below meth c Q M cad tc D S0 A ws0 c0 z0 i ls (.int y :: .int x :: st) S := by
  obtain ⟨hx, hb, hml, hown, hts, -⟩ := C
  intro ws H locs ar sr hW hL hl hS hc hz
  obtain ⟨V, sr, rfl, h8, hS1⟩ := hS.cons
  clear hS
  obtain ⟨V1, sr, rfl, h9, hS⟩ := hS1.cons
  clear hS1
  cases h8
  cases h9
  rw [hp]
  refine lv_irem hx hb hd h0 ?_
  have := k ws H locs ar (.int (zRem x y) :: sr) hW hL hl ⟨rfl, hS⟩ hc hz
  rwa [hn] at this
theorem zs_ladd {x y : Int64} (C : zCx p l R s m args meth c M cad S0 A) (hp : zpcOf M i = pc) (hd : decode (zmCode M) pc = .ok (.ladd, 1)) (hn : zpcOf M (i + 1) = pc + 1) (k : zGo p l e R s m args below meth c Q M cad tc D S0 A ws0 c0 z0 (i + 1) ls (.long (x + y) :: st) S) : zGo p l e R s m args below meth c Q M cad tc D S0 A ws0 c0 z0 i ls (.long y :: .long x :: st) S := by
  obtain ⟨hx, hb, hml, hown, hts, -⟩ := C
  intro ws H locs ar sr hW hL hl hS hc hz
  obtain ⟨V, sr, rfl, h8, hS1⟩ := hS.cons
  clear hS
  obtain ⟨V1, sr, rfl, h9, hS⟩ := hS1.cons
  clear hS1
  cases h8
  cases h9
  rw [hp]
  refine lv_ladd hx hb hd ?_
  have := k ws H locs ar (.long (x + y) :: sr) hW hL hl ⟨rfl, hS⟩ hc hz
  rwa [hn] at this
theorem zs_lsub {x y : Int64} (C : zCx p l R s m args meth c M cad S0 A) (hp : zpcOf M i = pc) (hd : decode (zmCode M) pc = .ok (.lsub, 1)) (hn : zpcOf M (i + 1) = pc + 1) (k : zGo p l e R s m args below meth c Q M cad tc D S0 A ws0 c0 z0 (i + 1) ls (.long (x - y) :: st) S) : zGo p l e R s m args below meth c Q M cad tc D S0 A ws0 c0 z0 i ls (.long y :: .long x :: st) S := by
  obtain ⟨hx, hb, hml, hown, hts, -⟩ := C
  intro ws H locs ar sr hW hL hl hS hc hz
  obtain ⟨V, sr, rfl, h8, hS1⟩ := hS.cons
  clear hS
  obtain ⟨V1, sr, rfl, h9, hS⟩ := hS1.cons
  clear hS1
  cases h8
  cases h9
  rw [hp]
  refine lv_lsub hx hb hd ?_
  have := k ws H locs ar (.long (x - y) :: sr) hW hL hl ⟨rfl, hS⟩ hc hz
  rwa [hn] at this
theorem zs_lmul {x y : Int64} (C : zCx p l R s m args meth c M cad S0 A) (hp : zpcOf M i = pc) (hd : decode (zmCode M) pc = .ok (.lmul, 1)) (hn : zpcOf M (i + 1) = pc + 1) (k : zGo p l e R s m args below meth c Q M cad tc D S0 A ws0 c0 z0 (i + 1) ls (.long (x * y) :: st) S) : zGo p l e R s m args below meth c Q M cad tc D S0 A ws0 c0 z0 i ls (.long y :: .long x :: st) S := by
  obtain ⟨hx, hb, hml, hown, hts, -⟩ := C
  intro ws H locs ar sr hW hL hl hS hc hz
  obtain ⟨V, sr, rfl, h8, hS1⟩ := hS.cons
  clear hS
  obtain ⟨V1, sr, rfl, h9, hS⟩ := hS1.cons
  clear hS1
  cases h8
  cases h9
  rw [hp]
  refine lv_lmul hx hb hd ?_
  have := k ws H locs ar (.long (x * y) :: sr) hW hL hl ⟨rfl, hS⟩ hc hz
  rwa [hn] at this
theorem zs_land {x y : Int64} (C : zCx p l R s m args meth c M cad S0 A) (hp : zpcOf M i = pc) (hd : decode (zmCode M) pc = .ok (.land, 1)) (hn : zpcOf M (i + 1) = pc + 1) (k : zGo p l e R s m args below meth c Q M cad tc D S0 A ws0 c0 z0 (i + 1) ls (.long (x &&& y) :: st) S) : zGo p l e R s m args below meth c Q M cad tc D S0 A ws0 c0 z0 i ls (.long y :: .long x :: st) S := by
  obtain ⟨hx, hb, hml, hown, hts, -⟩ := C
  intro ws H locs ar sr hW hL hl hS hc hz
  obtain ⟨V, sr, rfl, h8, hS1⟩ := hS.cons
  clear hS
  obtain ⟨V1, sr, rfl, h9, hS⟩ := hS1.cons
  clear hS1
  cases h8
  cases h9
  rw [hp]
  refine lv_land hx hb hd ?_
  have := k ws H locs ar (.long (x &&& y) :: sr) hW hL hl ⟨rfl, hS⟩ hc hz
  rwa [hn] at this
theorem zs_lor {x y : Int64} (C : zCx p l R s m args meth c M cad S0 A) (hp : zpcOf M i = pc) (hd : decode (zmCode M) pc = .ok (.lor, 1)) (hn : zpcOf M (i + 1) = pc + 1) (k : zGo p l e R s m args below meth c Q M cad tc D S0 A ws0 c0 z0 (i + 1) ls (.long (x ||| y) :: st) S) : zGo p l e R s m args below meth c Q M cad tc D S0 A ws0 c0 z0 i ls (.long y :: .long x :: st) S := by
  obtain ⟨hx, hb, hml, hown, hts, -⟩ := C
  intro ws H locs ar sr hW hL hl hS hc hz
  obtain ⟨V, sr, rfl, h8, hS1⟩ := hS.cons
  clear hS
  obtain ⟨V1, sr, rfl, h9, hS⟩ := hS1.cons
  clear hS1
  cases h8
  cases h9
  rw [hp]
  refine lv_lor hx hb hd ?_
  have := k ws H locs ar (.long (x ||| y) :: sr) hW hL hl ⟨rfl, hS⟩ hc hz
  rwa [hn] at this
theorem zs_ldiv {x y : Int64} (C : zCx p l R s m args meth c M cad S0 A) (hp : zpcOf M i = pc) (hd : decode (zmCode M) pc = .ok (.ldiv, 1)) (hn : zpcOf M (i + 1) = pc + 1) (h0 : ¬ y = 0) (k : zGo p l e R s m args below meth c Q M cad tc D S0 A ws0 c0 z0 (i + 1) ls (.long (x / y) :: st) S) : zGo p l e R s m args below meth c Q M cad tc D S0 A ws0 c0 z0 i ls (.long y :: .long x :: st) S := by
  obtain ⟨hx, hb, hml, hown, hts, -⟩ := C
  intro ws H locs ar sr hW hL hl hS hc hz
  obtain ⟨V, sr, rfl, h8, hS1⟩ := hS.cons
  clear hS
  obtain ⟨V1, sr, rfl, h9, hS⟩ := hS1.cons
  clear hS1
  cases h8
  cases h9
  rw [hp]
  refine lv_ldiv hx hb hd h0 ?_
  have := k ws H locs ar (.long (x / y) :: sr) hW hL hl ⟨rfl, hS⟩ hc hz
  rwa [hn] at this
theorem zs_lrem {x y : Int64} (C : zCx p l R s m args meth c M cad S0 A) (hp : zpcOf M i = pc) (hd : decode (zmCode M) pc = .ok (.lrem, 1)) (hn : zpcOf M (i + 1) = pc + 1) (h0 : ¬ y = 0) (k : zGo p l e R s m args below meth c Q M cad tc D S0 A ws0 c0 z0 (i + 1) ls (.long (zRemL x y) :: st) S) : zGo p l e R s m args below meth c Q M cad tc D S0 A ws0 c0 z0 i ls (.long y :: .long x :: st) S := by
  obtain ⟨hx, hb, hml, hown, hts, -⟩ := C
  intro ws H locs ar sr hW hL hl hS hc hz
  obtain ⟨V, sr, rfl, h8, hS1⟩ := hS.cons
  clear hS
  obtain ⟨V1, sr, rfl, h9, hS⟩ := hS1.cons
  clear hS1
  cases h8
  cases h9
  rw [hp]
  refine lv_lrem hx hb hd h0 ?_
  have := k ws H locs ar (.long (zRemL x y) :: sr) hW hL hl ⟨rfl, hS⟩ hc hz
  rwa [hn] at this
theorem zs_lcmp {x y : Int64} (C : zCx p l R s m args meth c M cad S0 A) (hp : zpcOf M i = pc) (hd : decode (zmCode M) pc = .ok (.lcmp, 1)) (hn : zpcOf M (i + 1) = pc + 1) (k : zGo p l e R s m args below meth c Q M cad tc D S0 A ws0 c0 z0 (i + 1) ls (.int (lg_cmp x y) :: st) S) : zGo p l e R s m args below meth c Q M cad tc D S0 A ws0 c0 z0 i ls (.long y :: .long x :: st) S := by
  obtain ⟨hx, hb, hml, hown, hts, -⟩ := C
  intro ws H locs ar sr hW hL hl hS hc hz
  obtain ⟨V, sr, rfl, h8, hS1⟩ := hS.cons
  clear hS
  obtain ⟨V1, sr, rfl, h9, hS⟩ := hS1.cons
  clear hS1
  cases h8
  cases h9
  rw [hp]
  refine W.lcmp hx hb hd ?_
  have := k ws H locs ar (.int (lg_cmp x y) :: sr) hW hL hl ⟨rfl, hS⟩ hc hz
  rwa [hn] at this
theorem zs_lshl {x : Int64} {y : Int32} (C : zCx p l R s m args meth c M cad S0 A) (hp : zpcOf M i = pc) (hd : decode (zmCode M) pc = .ok (.lshl, 1)) (hn : zpcOf M (i + 1) = pc + 1) (k : zGo p l e R s m args below meth c Q M cad tc D S0 A ws0 c0 z0 (i + 1) ls (.long (zShlL x y) :: st) S) : zGo p l e R s m args below meth c Q M cad tc D S0 A ws0 c0 z0 i ls (.int y :: .long x :: st) S := by
  obtain ⟨hx, hb, hml, hown, hts, -⟩ := C
  intro ws H locs ar sr hW hL hl hS hc hz
  obtain ⟨V, sr, rfl, h8, hS1⟩ := hS.cons
  clear hS
  obtain ⟨V1, sr, rfl, h9, hS⟩ := hS1.cons
  clear hS1
  cases h8
  cases h9
  rw [hp]
  refine lv_lshl hx hb hd rfl ?_
  have := k ws H locs ar (.long (zShlL x y) :: sr) hW hL hl ⟨rfl, hS⟩ hc hz
  rwa [hn] at this
theorem zs_lshr {x : Int64} {y : Int32} (C : zCx p l R s m args meth c M cad S0 A) (hp : zpcOf M i = pc) (hd : decode (zmCode M) pc = .ok (.lshr, 1)) (hn : zpcOf M (i + 1) = pc + 1) (k : zGo p l e R s m args below meth c Q M cad tc D S0 A ws0 c0 z0 (i + 1) ls (.long (zShrL x y) :: st) S) : zGo p l e R s m args below meth c Q M cad tc D S0 A ws0 c0 z0 i ls (.int y :: .long x :: st) S := by
  obtain ⟨hx, hb, hml, hown, hts, -⟩ := C
  intro ws H locs ar sr hW hL hl hS hc hz
  obtain ⟨V, sr, rfl, h8, hS1⟩ := hS.cons
  clear hS
  obtain ⟨V1, sr, rfl, h9, hS⟩ := hS1.cons
  clear hS1
  cases h8
  cases h9
  rw [hp]
  refine lv_lshr hx hb hd rfl ?_
  have := k ws H locs ar (.long (zShrL x y) :: sr) hW hL hl ⟨rfl, hS⟩ hc hz
  rwa [hn] at this
theorem zs_lushr {x : Int64} {y : Int32} (C : zCx p l R s m args meth c M cad S0 A) (hp : zpcOf M i = pc) (hd : decode (zmCode M) pc = .ok (.lushr, 1)) (hn : zpcOf M (i + 1) = pc + 1) (k : zGo p l e R s m args below meth c Q M cad tc D S0 A ws0 c0 z0 (i + 1) ls (.long (zUshrL x y) :: st) S) : zGo p l e R s m args below meth c Q M cad tc D S0 A ws0 c0 z0 i ls (.int y :: .long x :: st) S := by
  obtain ⟨hx, hb, hml, hown, hts, -⟩ := C
  intro ws H locs ar sr hW hL hl hS hc hz
  obtain ⟨V, sr, rfl, h8, hS1⟩ := hS.cons
  clear hS
  obtain ⟨V1, sr, rfl, h9, hS⟩ := hS1.cons
  clear hS1
  cases h8
  cases h9
  rw [hp]
  refine lv_lushr hx hb hd rfl ?_
  have := k ws H locs ar (.long (zUshrL x y) :: sr) hW hL hl ⟨rfl, hS⟩ hc hz
  rwa [hn] at this
theorem zs_dup {v : Value} (C : zCx p l R s m args meth c M cad S0 A) (hp : zpcOf M i = pc) (hd : decode (zmCode M) pc = .ok (.dup, 1)) (hn : zpcOf M (i + 1) = pc + 1) (h1 : ∀ x, v ≠ .long x) (k : zGo p l e R s m args below meth c Q M cad tc D S0 A ws0 c0 z0 (i + 1) ls (v :: v :: st) S) : zGo p l e R s m args below meth c Q M cad tc D S0 A ws0 c0 z0 i ls (v :: st) S := by
  obtain ⟨hx, hb, hml, hown, hts, -⟩ := C
  intro ws H locs ar sr hW hL hl hS hc hz
  obtain ⟨V, sr, rfl, h8, hS⟩ := hS.cons
  rw [hp]
  refine lv_dup hx hb hd (h8.cat h1) ?_
  have := k ws H locs ar (V :: V :: sr) hW hL hl ⟨h8, h8, hS⟩ hc hz
  rwa [hn] at this
theorem zs_dup2 {y : Int32} {x : Nat} (C : zCx p l R s m args meth c M cad S0 A) (hp : zpcOf M i = pc) (hd : decode (zmCode M) pc = .ok (.dup2, 1)) (hn : zpcOf M (i + 1) = pc + 1) (k : zGo p l e R s m args below meth c Q M cad tc D S0 A ws0 c0 z0 (i + 1) ls (.int y :: .ref x :: .int y :: .ref x :: st) S) : zGo p l e R s m args below meth c Q M cad tc D S0 A ws0 c0 z0 i ls (.int y :: .ref x :: st) S := by
  obtain ⟨hx, hb, hml, hown, hts, -⟩ := C
  intro ws H locs ar sr hW hL hl hS hc hz
  obtain ⟨V, sr, rfl, h8, hS1⟩ := hS.cons
  clear hS
  obtain ⟨V1, sr, rfl, h9, hS⟩ := hS1.cons
  clear hS1
  rw [hp]
  refine lv_dup2_11 hx hb hd (h8.cat (fun _ => by simp)) (h9.cat (fun _ => by simp)) ?_
  have := k ws H locs ar (V :: V1 :: V :: V1 :: sr) hW hL hl ⟨h8, h9, h8, h9, hS⟩ hc hz
  rwa [hn] at this
theorem zs_pop {y : Int32} (C : zCx p l R s m args meth c M cad S0 A) (hp : zpcOf M i = pc) (hd : decode (zmCode M) pc = .ok (.pop, 1)) (hn : zpcOf M (i + 1) = pc + 1) (k : zGo p l e R s m args below meth c Q M cad tc D S0 A ws0 c0 z0 (i + 1) ls st S) : zGo p l e R s m args below meth c Q M cad tc D S0 A ws0 c0 z0 i ls (.int y :: st) S := by
  obtain ⟨hx, hb, hml, hown, hts, -⟩ := C
  intro ws H locs ar sr hW hL hl hS hc hz
  obtain ⟨V, sr, rfl, h8, hS⟩ := hS.cons
  rw [hp]
  refine lv_pop hx hb hd (h8.cat (fun _ => by simp)) ?_
  have := k ws H locs ar sr hW hL hl hS hc hz
  rwa [hn] at this
theorem zs_icmp_eq {x y : Int32} {off : Int} {tg : Nat} (C : zCx p l R s m args meth c M cad S0 A) (hp : zpcOf M i = pc) (hd : decode (zmCode M) pc = .ok (.if_icmp .eq off, 3)) (hn : zpcOf M (i + 1) = pc + 3) (ht : (pc : Int) + off = (zpcOf M tg : Int))
    (k : (zcnd .eq x y → zGo p l e R s m args below meth c Q M cad tc D S0 A ws0 c0 z0 tg ls st S) ∧ (¬ zcnd .eq x y → zGo p l e R s m args below meth c Q M cad tc D S0 A ws0 c0 z0 (i + 1) ls st S)) : zGo p l e R s m args below meth c Q M cad tc D S0 A ws0 c0 z0 i ls (.int y :: .int x :: st) S := by
  obtain ⟨hx, hb, hml, hown, hts, -⟩ := C
  intro ws H locs ar sr hW hL hl hS hc hz
  obtain ⟨V, sr, rfl, h8, hS1⟩ := hS.cons
  clear hS
  obtain ⟨V1, sr, rfl, h9, hS⟩ := hS1.cons
  clear hS1
  cases h8
  cases h9
  rw [hp]
  refine lv_icmp_eq hx hb hd ht (fun h => k.1 h ws H locs ar sr hW hL hl hS hc hz) (fun h => ?_)
  have := k.2 h ws H locs ar sr hW hL hl hS hc hz
  rwa [hn] at this
theorem zs_if_eq {x : Int32} {off : Int} {tg : Nat} (C : zCx p l R s m args meth c M cad S0 A) (hp : zpcOf M i = pc) (hd : decode (zmCode M) pc = .ok (.ifCond .eq off, 3)) (hn : zpcOf M (i + 1) = pc + 3) (ht : (pc : Int) + off = (zpcOf M tg : Int))
    (k : (zcnd .eq x 0 → zGo p l e R s m args below meth c Q M cad tc D S0 A ws0 c0 z0 tg ls st S) ∧ (¬ zcnd .eq x 0 → zGo p l e R s m args below meth c Q M cad tc D S0 A ws0 c0 z0 (i + 1) ls st S)) : zGo p l e R s m args below meth c Q M cad tc D S0 A ws0 c0 z0 i ls (.int x :: st) S := by
  obtain ⟨hx, hb, hml, hown, hts, -⟩ := C
  intro ws H locs ar sr hW hL hl hS hc hz
  obtain ⟨V, sr, rfl, h8, hS1⟩ := hS.cons
  clear hS
  cases h8
  have hS := hS1
  rw [hp]
  refine lv_if_eq hx hb hd ht (fun h => k.1 h ws H locs ar sr hW hL hl hS hc hz) (fun h => ?_)
  have := k.2 h ws H locs ar sr hW hL hl hS hc hz
  rwa [hn] at this
theorem zs_icmp_ne {x y : Int32} {off : Int} {tg : Nat} (C : zCx p l R s m args meth c M cad S0 A) (hp : zpcOf M i = pc) (hd : decode (zmCode M) pc = .ok (.if_icmp .ne off, 3)) (hn : zpcOf M (i + 1) = pc + 3) (ht : (pc : Int) + off = (zpcOf M tg : Int))
    (k : (zcnd .ne x y → zGo p l e R s m args below meth c Q M cad tc D S0 A ws0 c0 z0 tg ls st S) ∧ (¬ zcnd .ne x y → zGo p l e R s m args below meth c Q M cad tc D S0 A ws0 c0 z0 (i + 1) ls st S)) : zGo p l e R s m args below meth c Q M cad tc D S0 A ws0 c0 z0 i ls (.int y :: .int x :: st) S := by
  obtain ⟨hx, hb, hml, hown, hts, -⟩ := C
  intro ws H locs ar sr hW hL hl hS hc hz
  obtain ⟨V, sr, rfl, h8, hS1⟩ := hS.cons
  clear hS
  obtain ⟨V1, sr, rfl, h9, hS⟩ := hS1.cons
  clear hS1
  cases h8
  cases h9
  rw [hp]
  refine lv_icmp_ne hx hb hd ht (fun h => k.1 h ws H locs ar sr hW hL hl hS hc hz) (fun h => ?_)
  have := k.2 (fun h9 => h9 h) ws H locs ar sr hW hL hl hS hc hz
  rwa [hn] at this
theorem zs_if_ne {x : Int32} {off : Int} {tg : Nat} (C : zCx p l R s m args meth c M cad S0 A) (hp : zpcOf M i = pc) (hd : decode (zmCode M) pc = .ok (.ifCond .ne off, 3)) (hn : zpcOf M (i + 1) = pc + 3) (ht : (pc : Int) + off = (zpcOf M tg : Int))
    (k : (zcnd .ne x 0 → zGo p l e R s m args below meth c Q M cad tc D S0 A ws0 c0 z0 tg ls st S) ∧ (¬ zcnd .ne x 0 → zGo p l e R s m args below meth c Q M cad tc D S0 A ws0 c0 z0 (i + 1) ls st S)) : zGo p l e R s m args below meth c Q M cad tc D S0 A ws0 c0 z0 i ls (.int x :: st) S := by
  obtain ⟨hx, hb, hml, hown, hts, -⟩ := C
  intro ws H locs ar sr hW hL hl hS hc hz
  obtain ⟨V, sr, rfl, h8, hS1⟩ := hS.cons
  clear hS
  cases h8
  have hS := hS1
  rw [hp]
  refine lv_if_ne hx hb hd ht (fun h => k.1 h ws H locs ar sr hW hL hl hS hc hz) (fun h => ?_)
  have := k.2 (fun h9 => h9 h) ws H locs ar sr hW hL hl hS hc hz
  rwa [hn] at this
theorem zs_icmp_lt {x y : Int32} {off : Int} {tg : Nat} (C : zCx p l R s m args meth c M cad S0 A) (hp : zpcOf M i = pc) (hd : decode (zmCode M) pc = .ok (.if_icmp .lt off, 3)) (hn : zpcOf M (i + 1) = pc + 3) (ht : (pc : Int) + off = (zpcOf M tg : Int))
    (k : (zcnd .lt x y → zGo p l e R s m args below meth c Q M cad tc D S0 A ws0 c0 z0 tg ls st S) ∧ (¬ zcnd .lt x y → zGo p l e R s m args below meth c Q M cad tc D S0 A ws0 c0 z0 (i + 1) ls st S)) : zGo p l e R s m args below meth c Q M cad tc D S0 A ws0 c0 z0 i ls (.int y :: .int x :: st) S := by
  obtain ⟨hx, hb, hml, hown, hts, -⟩ := C
  intro ws H locs ar sr hW hL hl hS hc hz
  obtain ⟨V, sr, rfl, h8, hS1⟩ := hS.cons
  clear hS
  obtain ⟨V1, sr, rfl, h9, hS⟩ := hS1.cons
  clear hS1
  cases h8
  cases h9
  rw [hp]
  refine lv_icmp_lt hx hb hd ht (fun h => k.1 h ws H locs ar sr hW hL hl hS hc hz) (fun h => ?_)
  have := k.2 h ws H locs ar sr hW hL hl hS hc hz
  rwa [hn] at this
theorem zs_if_lt {x : Int32} {off : Int} {tg : Nat} (C : zCx p l R s m args meth c M cad S0 A) (hp : zpcOf M i = pc) (hd : decode (zmCode M) pc = .ok (.ifCond .lt off, 3)) (hn : zpcOf M (i + 1) = pc + 3) (ht : (pc : Int) + off = (zpcOf M tg : Int))
    (k : (zcnd .lt x 0 → zGo p l e R s m args below meth c Q M cad tc D S0 A ws0 c0 z0 tg ls st S) ∧ (¬ zcnd .lt x 0 → zGo p l e R s m args below meth c Q M cad tc D S0 A ws0 c0 z0 (i + 1) ls st S)) : zGo p l e R s m args below meth c Q M cad tc D S0 A ws0 c0 z0 i ls (.int x :: st) S := by
  obtain ⟨hx, hb, hml, hown, hts, -⟩ := C
  intro ws H locs ar sr hW hL hl hS hc hz
  obtain ⟨V, sr, rfl, h8, hS1⟩ := hS.cons
  clear hS
  cases h8
  have hS := hS1
  rw [hp]
  refine lv_if_lt hx hb hd ht (fun h => k.1 h ws H locs ar sr hW hL hl hS hc hz) (fun h => ?_)
  have := k.2 h ws H locs ar sr hW hL hl hS hc hz
  rwa [hn] at this
theorem zs_icmp_ge {x y : Int32} {off : Int} {tg : Nat} (C : zCx p l R s m args meth c M cad S0 A) (hp : zpcOf M i = pc) (hd : decode (zmCode M) pc = .ok (.if_icmp .ge off, 3)) (hn : zpcOf M (i + 1) = pc + 3) (ht : (pc : Int) + off = (zpcOf M tg : Int))
    (k : (zcnd .ge x y → zGo p l e R s m args below meth c Q M cad tc D S0 A ws0 c0 z0 tg ls st S) ∧ (¬ zcnd .ge x y → zGo p l e R s m args below meth c Q M cad tc D S0 A ws0 c0 z0 (i + 1) ls st S)) : zGo p l e R s m args below meth c Q M cad tc D S0 A ws0 c0 z0 i ls (.int y :: .int x :: st) S := by
  obtain ⟨hx, hb, hml, hown, hts, -⟩ := C
  intro ws H locs ar sr hW hL hl hS hc hz
  obtain ⟨V, sr, rfl, h8, hS1⟩ := hS.cons
  clear hS
  obtain ⟨V1, sr, rfl, h9, hS⟩ := hS1.cons
  clear hS1
  cases h8
  cases h9
  rw [hp]
  refine lv_icmp_ge hx hb hd ht (fun h => k.1 h ws H locs ar sr hW hL hl hS hc hz) (fun h => ?_)
  have := k.2 h ws H locs ar sr hW hL hl hS hc hz
  rwa [hn] at this
theorem zs_if_ge {x : Int32} {off : Int} {tg : Nat} (C : zCx p l R s m args meth c M cad S0 A) (hp : zpcOf M i = pc) (hd : decode (zmCode M) pc = .ok (.ifCond .ge off, 3)) (hn : zpcOf M (i + 1) = pc + 3) (ht : (pc : Int) + off = (zpcOf M tg : Int))
    (k : (zcnd .ge x 0 → zGo p l e R s m args below meth c Q M cad tc D S0 A ws0 c0 z0 tg ls st S) ∧ (¬ zcnd .ge x 0 → zGo p l e R s m args below meth c Q M cad tc D S0 A ws0 c0 z0 (i + 1) ls st S)) : zGo p l e R s m args below meth c Q M cad tc D S0 A ws0 c0 z0 i ls (.int x :: st) S := by
  obtain ⟨hx, hb, hml, hown, hts, -⟩ := C
  intro ws H locs ar sr hW hL hl hS hc hz
  obtain ⟨V, sr, rfl, h8, hS1⟩ := hS.cons
  clear hS
  cases h8
  have hS := hS1
  rw [hp]
  refine lv_if_ge hx hb hd ht (fun h => k.1 h ws H locs ar sr hW hL hl hS hc hz) (fun h => ?_)
  have := k.2 h ws H locs ar sr hW hL hl hS hc hz
  rwa [hn] at this
theorem zs_icmp_gt {x y : Int32} {off : Int} {tg : Nat} (C : zCx p l R s m args meth c M cad S0 A) (hp : zpcOf M i = pc) (hd : decode (zmCode M) pc = .ok (.if_icmp .gt off, 3)) (hn : zpcOf M (i + 1) = pc + 3) (ht : (pc : Int) + off = (zpcOf M tg : Int))
    (k : (zcnd .gt x y → zGo p l e R s m args below meth c Q M cad tc D S0 A ws0 c0 z0 tg ls st S) ∧ (¬ zcnd .gt x y → zGo p l e R s m args below meth c Q M cad tc D S0 A ws0 c0 z0 (i + 1) ls st S)) : zGo p l e R s m args below meth c Q M cad tc D S0 A ws0 c0 z0 i ls (.int y :: .int x :: st) S := by
  obtain ⟨hx, hb, hml, hown, hts, -⟩ := C
  intro ws H locs ar sr hW hL hl hS hc hz
  obtain ⟨V, sr, rfl, h8, hS1⟩ := hS.cons
  clear hS
  obtain ⟨V1, sr, rfl, h9, hS⟩ := hS1.cons
  clear hS1
  cases h8
  cases h9
  rw [hp]
  refine lv_icmp_gt hx hb hd ht (fun h => k.1 h ws H locs ar sr hW hL hl hS hc hz) (fun h => ?_)
  have := k.2 h ws H locs ar sr hW hL hl hS hc hz
  rwa [hn] at this
theorem zs_if_gt {x : Int32} {off : Int} {tg : Nat} (C : zCx p l R s m args meth c M cad S0 A) (hp : zpcOf M i = pc) (hd : decode (zmCode M) pc = .ok (.ifCond .gt off, 3)) (hn : zpcOf M (i + 1) = pc + 3) (ht : (pc : Int) + off = (zpcOf M tg : Int))
    (k : (zcnd .gt x 0 → zGo p l e R s m args below meth c Q M cad tc D S0 A ws0 c0 z0 tg ls st S) ∧ (¬ zcnd .gt x 0 → zGo p l e R s m args below meth c Q M cad tc D S0 A ws0 c0 z0 (i + 1) ls st S)) : zGo p l e R s m args below meth c Q M cad tc D S0 A ws0 c0 z0 i ls (.int x :: st) S := by
  obtain ⟨hx, hb, hml, hown, hts, -⟩ := C
  intro ws H locs ar sr hW hL hl hS hc hz
  obtain ⟨V, sr, rfl, h8, hS1⟩ := hS.cons
  clear hS
  cases h8
  have hS := hS1
  rw [hp]
  refine lv_if_gt hx hb hd ht (fun h => k.1 h ws H locs ar sr hW hL hl hS hc hz) (fun h => ?_)
  have := k.2 h ws H locs ar sr hW hL hl hS hc hz
  rwa [hn] at this
theorem zs_icmp_le {x y : Int32} {off : Int} {tg : Nat} (C : zCx p l R s m args meth c M cad S0 A) (hp : zpcOf M i = pc) (hd : decode (zmCode M) pc = .ok (.if_icmp .le off, 3)) (hn : zpcOf M (i + 1) = pc + 3) (ht : (pc : Int) + off = (zpcOf M tg : Int))
    (k : (zcnd .le x y → zGo p l e R s m args below meth c Q M cad tc D S0 A ws0 c0 z0 tg ls st S) ∧ (¬ zcnd .le x y → zGo p l e R s m args below meth c Q M cad tc D S0 A ws0 c0 z0 (i + 1) ls st S)) : zGo p l e R s m args below meth c Q M cad tc D S0 A ws0 c0 z0 i ls (.int y :: .int x :: st) S := by
  obtain ⟨hx, hb, hml, hown, hts, -⟩ := C
  intro ws H locs ar sr hW hL hl hS hc hz
  obtain ⟨V, sr, rfl, h8, hS1⟩ := hS.cons
  clear hS
  obtain ⟨V1, sr, rfl, h9, hS⟩ := hS1.cons
  clear hS1
  cases h8
  cases h9
  rw [hp]
  refine lv_icmp_le hx hb hd ht (fun h => k.1 h ws H locs ar sr hW hL hl hS hc hz) (fun h => ?_)
  have := k.2 h ws H locs ar sr hW hL hl hS hc hz
  rwa [hn] at this
theorem zs_if_le {x : Int32} {off : Int} {tg : Nat} (C : zCx p l R s m args meth c M cad S0 A) (hp : zpcOf M i = pc) (hd : decode (zmCode M) pc = .ok (.ifCond .le off, 3)) (hn : zpcOf M (i + 1) = pc + 3) (ht : (pc : Int) + off = (zpcOf M tg : Int))
    (k : (zcnd .le x 0 → zGo p l e R s m args below meth c Q M cad tc D S0 A ws0 c0 z0 tg ls st S) ∧ (¬ zcnd .le x 0 → zGo p l e R s m args below meth c Q M cad tc D S0 A ws0 c0 z0 (i + 1) ls st S)) : zGo p l e R s m args below meth c Q M cad tc D S0 A ws0 c0 z0 i ls (.int x :: st) S := by
  obtain ⟨hx, hb, hml, hown, hts, -⟩ := C
  intro ws H locs ar sr hW hL hl hS hc hz
  obtain ⟨V, sr, rfl, h8, hS1⟩ := hS.cons
  clear hS
  cases h8
  have hS := hS1
  rw [hp]
  refine lv_if_le hx hb hd ht (fun h => k.1 h ws H locs ar sr hW hL hl hS hc hz) (fun h => ?_)
  have := k.2 h ws H locs ar sr hW hL hl hS hc hz
  rwa [hn] at this
theorem zs_nonnull {x : Nat} {off : Int} {tg : Nat} (C : zCx p l R s m args meth c M cad S0 A) (hp : zpcOf M i = pc) (hd : decode (zmCode M) pc = .ok (.ifnonnull off, 3)) (ht : (pc : Int) + off = (zpcOf M tg : Int)) (k : zGo p l e R s m args below meth c Q M cad tc D S0 A ws0 c0 z0 tg ls st S) : zGo p l e R s m args below meth c Q M cad tc D S0 A ws0 c0 z0 i ls (.ref x :: st) S := by
  obtain ⟨hx, hb, hml, hown, hts, -⟩ := C
  intro ws H locs ar sr hW hL hl hS hc hz
  obtain ⟨V, sr, rfl, ⟨a, rfl, -⟩, hS1⟩ := hS.cons
  clear hS
  have hS := hS1
  rw [hp]
  exact lv_ifnonnull hx hb hd ht (k ws H locs ar sr hW hL hl hS hc hz)
theorem zs_nonnullN {off : Int} (C : zCx p l R s m args meth c M cad S0 A) (hp : zpcOf M i = pc) (hd : decode (zmCode M) pc = .ok (.ifnonnull off, 3)) (hn : zpcOf M (i + 1) = pc + 3) (k : zGo p l e R s m args below meth c Q M cad tc D S0 A ws0 c0 z0 (i + 1) ls st S) : zGo p l e R s m args below meth c Q M cad tc D S0 A ws0 c0 z0 i ls (.null :: st) S := by
  obtain ⟨hx, hb, hml, hown, hts, -⟩ := C
  intro ws H locs ar sr hW hL hl hS hc hz
  obtain ⟨V, sr, rfl, h8, hS1⟩ := hS.cons
  clear hS
  cases h8
  have hS := hS1
  rw [hp]
  refine lv_ifnonnullN hx hb hd ?_
  have := k ws H locs ar sr hW hL hl hS hc hz
  rwa [hn] at this
theorem zs_goto {off : Int} {tg : Nat} (C : zCx p l R s m args meth c M cad S0 A) (hp : zpcOf M i = pc) (hd : decode (zmCode M) pc = .ok (.goto off, 3)) (ht : (pc : Int) + off = (zpcOf M tg : Int)) (k : zGo p l e R s m args below meth c Q M cad tc D S0 A ws0 c0 z0 tg ls st S) : zGo p l e R s m args below meth c Q M cad tc D S0 A ws0 c0 z0 i ls st S := by
  obtain ⟨hx, hb, hml, hown, hts, -⟩ := C
  intro ws H locs ar sr hW hL hl hS hc hz
  rw [hp]
  exact lv_goto hx hb hd ht (k ws H locs ar sr hW hL hl hS hc hz)
theorem ztgs_at : ∀ {ts : List Nat} {os : List Int}, ztgs M pc ts os = true → ts.length = os.length ∧ ∀ (j t : Nat), ts[j]? = some t → ∃ off, os[j]? = some off ∧ ztg M pc t off = true
  | [], [], _ => ⟨rfl, fun j t h => by simp at h⟩
  | [], _ :: _, h => by simp [ztgs] at h
  | _ :: _, [], h => by simp [ztgs] at h
  | t :: ts, o :: os, h => by
    simp only [ztgs, Bool.and_eq_true] at h
    obtain ⟨h1, h2⟩ := ztgs_at h.2
    refine ⟨by simp [h1], fun j t' ht => ?_⟩
    cases j with
    | zero =>
      cases ht
      exact ⟨o, rfl, h.1⟩
    | succ j => exact h2 j t' ht
theorem ztg_spec {t : Nat} {off : Int} (h : ztg M pc t off = true) : (pc : Int) + off = (zpcOf M t : Int) := by
  unfold ztg at h
  unfold zpcOf
  split at h
  · exact of_decide_eq_true h
  · cases h
theorem zs_switch {x : Int32} {len : Nat} {dflt lo hi : Int} {offs : Array Int} {lo' dt : Nat} {ts : List Nat} (C : zCx p l R s m args meth c M cad S0 A) (hp : zpcOf M i = pc) (hd : decode (zmCode M) pc = .ok (.tableswitch dflt lo hi offs, len)) (hlo : lo = (lo' : Int)) (hhi : hi + 1 = (lo' : Int) + ts.length)
    (hdt : ztg M pc dt dflt = true) (hts9 : ztgs M pc ts offs.toList = true) (hbd : lo' + ts.length ≤ 4096)
    (k : zsw x (fun tg => zGo p l e R s m args below meth c Q M cad tc D S0 A ws0 c0 z0 tg ls st S) lo' ts ∧ (x.toInt < (lo' : Int) ∨ (lo' : Int) + ts.length ≤ x.toInt → zGo p l e R s m args below meth c Q M cad tc D S0 A ws0 c0 z0 dt ls st S)) : zGo p l e R s m args below meth c Q M cad tc D S0 A ws0 c0 z0 i ls (.int x :: st) S := by
  obtain ⟨hx, hb, hml, hown, hts, -⟩ := C
  intro ws H locs ar sr hW hL hl hS hc hz
  obtain ⟨V, sr, rfl, h8, hS1⟩ := hS.cons
  clear hS
  cases h8
  have hS := hS1
  rw [hp]
  by_cases hout : x.toInt < (lo' : Int) ∨ (lo' : Int) + ts.length ≤ x.toInt
  · exact lv_tableOut hx hb hd (by rw [hlo]; rcases hout with h | h <;> omega) (ztg_spec hdt) (k.2 hout ws H locs ar sr hW hL hl hS hc hz)
  · have h0 : ¬ x < 0 := fun h9 => by
      have := Int32.lt_iff_toInt_lt.mp h9
      have e0 : (0 : Int32).toInt = 0 := rfl
      omega
    obtain ⟨j, hj, ex⟩ := nI_of h0
    have ej : x.toInt = (j : Int) := by rw [ex, nI_toInt hj]
    have h2 : j - lo' < ts.length := by omega
    obtain ⟨t, ht⟩ : ∃ t, ts[j - lo']? = some t := ⟨_, List.getElem?_eq_getElem h2⟩
    obtain ⟨off, ho, hoff⟩ := (ztgs_at hts9).2 _ _ ht
    have hg := zsw_at ts lo' (j - lo') k.1 (by rw [ex]; congr 1; omega) t ht
    refine lv_tableIn hx hb hd (by omega) (by omega) (off := off) ?_ (ztg_spec hoff) (hg ws H locs ar sr hW hL hl hS hc hz)
    rw [ej, hlo, show ((j : Int) - (lo' : Int)).toNat = j - lo' by omega, ← Array.getElem?_toList]
    exact ho
end ZSteps
