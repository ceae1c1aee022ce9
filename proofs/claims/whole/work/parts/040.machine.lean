/-! The little machine: a store of numbered cells, and the bytecode's instructions over it as one predicate. Own words: z.. -/
/-- ints, longs, references by cell and slot; lengths; classes; the next cell; cells made; slots made -/
abbrev ZSt : Type := (Nat → Nat → Int32) × (Nat → Nat → Int64) × (Nat → Nat → Option Nat) × (Nat → Nat) × (Nat → Nat) × Nat × Nat × Nat
def zI (S : ZSt) : Nat → Nat → Int32 := S.1
def zL (S : ZSt) : Nat → Nat → Int64 := S.2.1
def zR (S : ZSt) : Nat → Nat → Option Nat := S.2.2.1
def zn (S : ZSt) : Nat → Nat := S.2.2.2.1
def zc (S : ZSt) : Nat → Nat := S.2.2.2.2.1
def zx (S : ZSt) : Nat := S.2.2.2.2.2.1
def zu (S : ZSt) : Nat := S.2.2.2.2.2.2.1
def zz (S : ZSt) : Nat := S.2.2.2.2.2.2.2
def zwI (S : ZSt) (a : Nat) (f : Nat → Int32) : ZSt := (va_up (zI S) a f, S.2)
def zwL (S : ZSt) (a : Nat) (f : Nat → Int64) : ZSt := (S.1, va_up (zL S) a f, S.2.2)
def zwR (S : ZSt) (a : Nat) (f : Nat → Option Nat) : ZSt := (S.1, S.2.1, va_up (zR S) a f, S.2.2.2)
/-- one slot written -/
def zsI (S : ZSt) (a k : Nat) (v : Int32) : ZSt := zwI S a (upd (zI S a) k v)
def zsL (S : ZSt) (a k : Nat) (v : Int64) : ZSt := zwL S a (vp_updL (zL S a) k v)
def zsR (S : ZSt) (a k : Nat) (v : Option Nat) : ZSt := zwR S a (va_up (zR S a) k v)
/-- a cell made: its class, its length, its slots; f: what its ints hold -/
def zNew (S : ZSt) (t n sl : Nat) (f : Nat → Int32) : ZSt := (va_up (zI S) (zx S) f, va_up (zL S) (zx S) (fun _ => 0), va_up (zR S) (zx S) (fun _ => none), va_up (zn S) (zx S) n, va_up (zc S) (zx S) t, zx S + 1, zu S + 1, zz S + sl)
/-- a throwable made: no cell of the store -/
def zThr (S : ZSt) : ZSt := (S.1, S.2.1, S.2.2.1, S.2.2.2.1, S.2.2.2.2.1, zx S, zu S + 1, zz S + 6)
abbrev ZLo : Type := List (Option Value)
abbrev ZOut : Type := Option Value ⊕ Nat
def zrv (q : Option Nat) : Value := match q with
  | none => .null
  | some a => .ref a
def zcst (r : List Nat) : Int32 := match r with
  | [k] => nI k
  | k :: _ => - nI k
  | [] => 0
def zRem (x y : Int32) : Int32 := x - x / y * y
def zRemL (x y : Int64) : Int64 := x - x / y * y
def zShl (x y : Int32) : Int32 := x <<< (y &&& 31)
def zShr (x y : Int32) : Int32 := x >>> (y &&& 31)
def zUshr (x y : Int32) : Int32 := (x.toUInt32 >>> (y.toUInt32 &&& Int32.toUInt32 31)).toInt32
def zShlL (x : Int64) (y : Int32) : Int64 := x <<< (y.toInt64 &&& 63)
def zShrL (x : Int64) (y : Int32) : Int64 := x >>> (y.toInt64 &&& 63)
def zUshrL (x : Int64) (y : Int32) : Int64 := (x.toUInt64 >>> (y.toInt64.toUInt64 &&& Int64.toUInt64 63)).toInt64
/-- no long ends where a local is stored -/
def zfree (ls : ZLo) (k : Nat) : Bool := match k with
  | 0 => true
  | j + 1 => match ls[j]? with
    | some (some (.long _)) => false
    | _ => true
abbrev ZNx : Type := Nat → ZLo → List Value → ZSt → Prop
def zsw (x : Int32) (K : Nat → Prop) : Nat → List Nat → Prop
  | _, [] => True
  | lo, t :: ts => (x = nI lo → K t) ∧ zsw x K (lo + 1) ts
/-- a local read: kind 0 an int, 1 a long, 2 a reference -/
def zld (t k i : Nat) (ls : ZLo) (st : List Value) (S : ZSt) (K : ZNx) : Prop := match t, ls[k]? with
  | 0, some (some (.int v)) => K (i + 1) ls (.int v :: st) S
  | 1, some (some (.long v)) => K (i + 1) ls (.long v :: st) S
  | 2, some (some (.ref v)) => K (i + 1) ls (.ref v :: st) S
  | 2, some (some .null) => K (i + 1) ls (.null :: st) S
  | _, _ => False
def zst1 (k i : Nat) (ls : ZLo) (v : Value) (st : List Value) (S : ZSt) (K : ZNx) : Prop := match Nat.blt k ls.length && zfree ls k with
  | true => K (i + 1) (ls.set k (some v)) st S
  | false => False
def zst (t k i : Nat) (ls : ZLo) (st : List Value) (S : ZSt) (K : ZNx) : Prop := match t, st with
  | 0, .int v :: r => zst1 k i ls (.int v) r S K
  | 1, .long v :: r => (match Nat.blt (k + 1) ls.length && zfree ls k with
    | true => K (i + 1) ((ls.set k (some (.long v))).set (k + 1) none) r S
    | false => False)
  | 2, .ref v :: r => zst1 k i ls (.ref v) r S K
  | 2, .null :: r => zst1 k i ls .null r S K
  | 2, .float v :: r => zst1 k i ls (.float v) r S K
  | _, _ => False
def zcnd (c : Jvm.ClassFile.Cond) (x y : Int32) : Prop := match c with
  | .eq => x = y
  | .ne => ¬ x = y
  | .lt => x < y
  | .ge => y ≤ x
  | .gt => y < x
  | .le => x ≤ y
def zbin (i : Nat) (ls : ZLo) (st : List Value) (S : ZSt) (K : ZNx) (f : Int32 → Int32 → Int32) : Prop := match st with
  | .int y :: .int x :: t => K (i + 1) ls (.int (f x y) :: t) S
  | _ => False
def zbinL (i : Nat) (ls : ZLo) (st : List Value) (S : ZSt) (K : ZNx) (f : Int64 → Int64 → Int64) : Prop := match st with
  | .long y :: .long x :: t => K (i + 1) ls (.long (f x y) :: t) S
  | _ => False
def zshL (i : Nat) (ls : ZLo) (st : List Value) (S : ZSt) (K : ZNx) (f : Int64 → Int32 → Int64) : Prop := match st with
  | .int y :: .long x :: t => K (i + 1) ls (.long (f x y) :: t) S
  | _ => False
/-- a field read: its class, its slot, its kind (0 int, 1 long, 2 a reference that isn't null) -/
def zget (r : List Nat) (i : Nat) (ls : ZLo) (st : List Value) (S : ZSt) (K : ZNx) : Prop := match r, st with
  | [ci, k, 0], .ref a :: t => zc S a = ci ∧ K (i + 1) ls (.int (zI S a k) :: t) S
  | [ci, k, 1], .ref a :: t => zc S a = ci ∧ K (i + 1) ls (.long (zL S a k) :: t) S
  | [ci, k, 2], .ref a :: t => zc S a = ci ∧ ∃ q, zR S a k = some q ∧ K (i + 1) ls (.ref q :: t) S
  | _, _ => False
/-- a field written: kinds as above; 3: a boolean -/
def zput (r : List Nat) (i : Nat) (ls : ZLo) (st : List Value) (S : ZSt) (K : ZNx) : Prop := match r, st with
  | [ci, k, 0], .int v :: .ref a :: t => zc S a = ci ∧ K (i + 1) ls t (zsI S a k v)
  | [ci, k, 3], .int v :: .ref a :: t => zc S a = ci ∧ (v = 0 ∨ v = 1) ∧ K (i + 1) ls t (zsI S a k v)
  | [ci, k, 1], .long v :: .ref a :: t => zc S a = ci ∧ K (i + 1) ls t (zsL S a k v)
  | [ci, k, 2], .ref v :: .ref a :: t => zc S a = ci ∧ K (i + 1) ls t (zsR S a k (some v))
  | _, _ => False
/-- an array read: its class by the operand -/
def zald (r : List Nat) (i : Nat) (ls : ZLo) (st : List Value) (S : ZSt) (K : ZNx) : Prop := match r, st with
  | [tg], .int j :: .ref a :: t => zc S a = tg ∧ vp_in j (zn S a) ∧ K (i + 1) ls (.int (zI S a j.toNatClampNeg) :: t) S
  | _, _ => False
/-- one instruction that neither calls nor leaves: what must hold, and where it goes on -/
def zv (ins : Instr) (r : List Nat) (i : Nat) (ls : ZLo) (st : List Value) (S : ZSt) (K : ZNx) : Prop := match ins with
  | .iconst _ => K (i + 1) ls (.int (zcst r) :: st) S
  | .bipush _ => K (i + 1) ls (.int (zcst r) :: st) S
  | .sipush _ => K (i + 1) ls (.int (zcst r) :: st) S
  | .lconst n => K (i + 1) ls (.long (lN n.val) :: st) S
  | .aconst_null => K (i + 1) ls (.null :: st) S
  | .ldc _ => (match r with
    | [0, k] => K (i + 1) ls (.int (nI k) :: st) S
    | [1, k] => K (i + 1) ls (.ref k :: st) S
    | _ => False)
  | .ldc_w _ => (match r with
    | [0, k] => K (i + 1) ls (.int (nI k) :: st) S
    | [1, k] => K (i + 1) ls (.ref k :: st) S
    | _ => False)
  | .ldc2_w _ => (match r with
    | [k] => K (i + 1) ls (.long (lN k) :: st) S
    | _ => False)
  | .iload k => zld 0 k i ls st S K
  | .iload_n k => zld 0 k.val i ls st S K
  | .aload k => zld 2 k i ls st S K
  | .aload_n k => zld 2 k.val i ls st S K
  | .lload k => zld 1 k i ls st S K
  | .lload_n k => zld 1 k.val i ls st S K
  | .istore k => zst 0 k i ls st S K
  | .istore_n k => zst 0 k.val i ls st S K
  | .astore k => zst 2 k i ls st S K
  | .astore_n k => zst 2 k.val i ls st S K
  | .lstore k => zst 1 k i ls st S K
  | .lstore_n k => zst 1 k.val i ls st S K
  | .iinc k _ => (match ls[k]? with
    | some (some (.int x)) => zst1 k i ls (.int (x + zcst r)) st S K
    | _ => False)
  | .dup => (match st with
    | .long _ :: _ => False
    | .double _ :: _ => False
    | v :: t => K (i + 1) ls (v :: v :: t) S
    | _ => False)
  | .dup2 => (match st with
    | .int y :: .ref x :: t => K (i + 1) ls (.int y :: .ref x :: .int y :: .ref x :: t) S
    | _ => False)
  | .pop => (match st with
    | .int _ :: t => K (i + 1) ls t S
    | _ => False)
  | .iadd => zbin i ls st S K (fun x y => x + y)
  | .isub => zbin i ls st S K (fun x y => x - y)
  | .imul => zbin i ls st S K (fun x y => x * y)
  | .iand => zbin i ls st S K (fun x y => x &&& y)
  | .ior => zbin i ls st S K (fun x y => x ||| y)
  | .ixor => zbin i ls st S K (fun x y => x ^^^ y)
  | .ishl => zbin i ls st S K zShl
  | .ishr => zbin i ls st S K zShr
  | .iushr => zbin i ls st S K zUshr
  | .idiv => (match st with
    | .int y :: .int x :: t => ¬ y = 0 ∧ K (i + 1) ls (.int (x / y) :: t) S
    | _ => False)
  | .irem => (match st with
    | .int y :: .int x :: t => ¬ y = 0 ∧ K (i + 1) ls (.int (zRem x y) :: t) S
    | _ => False)
  | .ineg => (match st with
    | .int x :: t => K (i + 1) ls (.int (-x) :: t) S
    | _ => False)
  | .ladd => zbinL i ls st S K (fun x y => x + y)
  | .lsub => zbinL i ls st S K (fun x y => x - y)
  | .lmul => zbinL i ls st S K (fun x y => x * y)
  | .land => zbinL i ls st S K (fun x y => x &&& y)
  | .lor => zbinL i ls st S K (fun x y => x ||| y)
  | .lshl => zshL i ls st S K zShlL
  | .lshr => zshL i ls st S K zShrL
  | .lushr => zshL i ls st S K zUshrL
  | .ldiv => (match st with
    | .long y :: .long x :: t => ¬ y = 0 ∧ K (i + 1) ls (.long (x / y) :: t) S
    | _ => False)
  | .lrem => (match st with
    | .long y :: .long x :: t => ¬ y = 0 ∧ K (i + 1) ls (.long (zRemL x y) :: t) S
    | _ => False)
  | .lcmp => (match st with
    | .long y :: .long x :: t => K (i + 1) ls (.int (lg_cmp x y) :: t) S
    | _ => False)
  | .i2l => (match st with
    | .int x :: t => K (i + 1) ls (.long x.toInt64 :: t) S
    | _ => False)
  | .l2i => (match st with
    | .long x :: t => K (i + 1) ls (.int x.toInt32 :: t) S
    | _ => False)
  | .i2c => (match st with
    | .int x :: t => K (i + 1) ls (.int (x.toUInt32 % 65536).toInt32 :: t) S
    | _ => False)
  | .if_icmp c _ => (match r, st with
    | [tg], .int y :: .int x :: t => (zcnd c x y → K tg ls t S) ∧ (¬ zcnd c x y → K (i + 1) ls t S)
    | _, _ => False)
  | .ifCond c _ => (match r, st with
    | [tg], .int x :: t => (zcnd c x 0 → K tg ls t S) ∧ (¬ zcnd c x 0 → K (i + 1) ls t S)
    | _, _ => False)
  | .ifnonnull _ => (match r, st with
    | [tg], .ref _ :: t => K tg ls t S
    | [_], .null :: t => K (i + 1) ls t S
    | _, _ => False)
  | .goto _ => (match r with
    | [tg] => K tg ls st S
    | _ => False)
  | .tableswitch _ _ _ _ => (match r, st with
    | lo :: dt :: ts, .int x :: t => (match Nat.ble (lo + ts.length) 4096 with
      | true => zsw x (fun tg => K tg ls t S) lo ts ∧ (x.toInt < (lo : Int) ∨ (lo : Int) + ts.length ≤ x.toInt → K dt ls t S)
      | false => False)
    | _, _ => False)
  | .getfield _ => zget r i ls st S K
  | .putfield _ => zput r i ls st S K
  | .getstatic _ => (match r with
    | [0, k] => K (i + 1) ls (.int (nI k) :: st) S
    | [1, k] => K (i + 1) ls (.ref k :: st) S
    | [2] => K (i + 1) ls (.float 0 :: st) S
    | _ => False)
  | .iaload => zald r i ls st S K
  | .baload => zald r i ls st S K
  | .laload => (match st with
    | .int j :: .ref a :: t => zc S a = 101 ∧ vp_in j (zn S a) ∧ K (i + 1) ls (.long (zL S a j.toNatClampNeg) :: t) S
    | _ => False)
  | .aaload => (match r, st with
    | [tg], .int j :: .ref a :: t => zc S a = tg ∧ vp_in j (zn S a) ∧ (zR S a j.toNatClampNeg = none → K (i + 1) ls (.null :: t) S) ∧ ∀ q, zR S a j.toNatClampNeg = some q → K (i + 1) ls (.ref q :: t) S
    | _, _ => False)
  | .iastore => (match st with
    | .int v :: .int j :: .ref a :: t => zc S a = 100 ∧ vp_in j (zn S a) ∧ K (i + 1) ls t (zsI S a j.toNatClampNeg v)
    | _ => False)
  | .bastore => (match st with
    | .int v :: .int j :: .ref a :: t => zc S a = 102 ∧ vp_in j (zn S a) ∧ K (i + 1) ls t (zsI S a j.toNatClampNeg (vp_nar .boolean v))
    | _ => False)
  | .lastore => (match st with
    | .long v :: .int j :: .ref a :: t => zc S a = 101 ∧ vp_in j (zn S a) ∧ K (i + 1) ls t (zsL S a j.toNatClampNeg v)
    | _ => False)
  | .aastore => (match r, st with
    | [tg, ci], .ref v :: .int j :: .ref a :: t => zc S a = tg ∧ zc S v = ci ∧ vp_in j (zn S a) ∧ K (i + 1) ls t (zsR S a j.toNatClampNeg (some v))
    | _, _ => False)
  | .arraylength => (match r, st with
    | [tg], .ref a :: t => zc S a = tg ∧ K (i + 1) ls (.int (nI (zn S a)) :: t) S
    | _, _ => False)
  | .new _ => (match r with
    | [ci, n] => K (i + 1) ls (.ref (zx S) :: st) (zNew S ci 0 n (fun _ => 0))
    | _ => False)
  | .newarray _ => (match r, st with
    | [tg], .int n :: t => ¬ n < 0 ∧ n.toNatClampNeg ≤ 60000000 ∧ K (i + 1) ls (.ref (zx S) :: t) (zNew S tg n.toNatClampNeg n.toNatClampNeg (fun _ => 0))
    | _, _ => False)
  | .anewarray _ => (match r, st with
    | [tg], .int n :: t => ¬ n < 0 ∧ n.toNatClampNeg ≤ 60000000 ∧ K (i + 1) ls (.ref (zx S) :: t) (zNew S tg n.toNatClampNeg n.toNatClampNeg (fun _ => 0))
    | _, _ => False)
  | .checkcast _ => (match st with
    | .ref a :: t => zc S a = 100 ∧ K (i + 1) ls (.ref a :: t) S
    | _ => False)
  | .invokespecial _ => (match r, st with
    | [0], .ref _ :: t => (match Nat.ble t.length 40 with
      | true => K (i + 1) ls t S
      | false => False)
    | _, _ => False)
  | .invokestatic _ => (match r, st with
    | [201], .int y :: .int x :: t => (match Nat.ble t.length 40 with
      | true => K (i + 1) ls (.int (if x < y then y else x) :: t) S
      | false => False)
    | [202], .int y :: .int x :: t => (match Nat.ble t.length 40 with
      | true => K (i + 1) ls (.int (if y < x then y else x) :: t) S
      | false => False)
    | [203], .long y :: .long x :: t => (match Nat.ble t.length 40 with
      | true => K (i + 1) ls (.long (if y < x then y else x) :: t) S
      | false => False)
    | [tg], .int n :: .int dp :: .ref b :: .int sp :: .ref a :: t => (match Nat.ble t.length 40 with
      | true => zc S a = tg ∧ zc S b = 100 ∧ ¬ sp < 0 ∧ ¬ dp < 0 ∧ ¬ n < 0 ∧ sp.toNatClampNeg + n.toNatClampNeg ≤ zn S a ∧ dp.toNatClampNeg + n.toNatClampNeg ≤ zn S b ∧
        K (i + 1) ls t (zwI S b (va_cpy (zI S a) (zI S b) sp.toNatClampNeg dp.toNatClampNeg n.toNatClampNeg))
      | false => False)
    | _, _ => False)
  | .invokevirtual _ => (match r, st with
    | [tg], .ref a :: t => (match Nat.ble t.length 40 with
      | true => zc S a = tg ∧ K (i + 1) ls (.ref (zx S) :: t) (zNew S 100 (zn S a) (zn S a) (zI S a))
      | false => False)
    | _, _ => False)
  | _ => False
/-- a call's arguments off the stack -/
def zpop (n : Nat) (st : List Value) : List Value := (st.take n).reverse
/-- a method's first locals -/
def zargs : List Value → ZLo
  | [] => []
  | .long v :: t => some (.long v) :: none :: zargs t
  | v :: t => some v :: zargs t
def zent (n : Nat) (av : List Value) : ZLo := zargs av ++ List.replicate (n - (zargs av).length) none
/-- the handler of a throw of kind x at pc -/
def zhan (hs : List (Nat × Nat × Nat × Nat)) (pc x : Nat) : Option Nat := match hs with
  | [] => none
  | (f, t, h, y) :: rest => if f ≤ pc ∧ pc < t ∧ x = y then some h else zhan rest pc x
/-- the receiver is of the callee's class -/
def zrcv (C : ZMt) (av : List Value) (S : ZSt) : Prop := match zmKind C, av with
  | 0, _ => True
  | _ + 1, .ref b :: _ => zc S b = zmRc C
  | _, _ => False
def zret (M : ZMt) (ins : Instr) (st : List Value) (o : ZOut) : Prop := match ins, st with
  | .ireturn, [.int v] => (∃ ty, zmRet M = some ty ∧ narrow ty (.int v) = .int v) ∧ o = .inl (some (.int v))
  | .lreturn, [.long v] => o = .inl (some (.long v))
  | .areturn, [.ref a] => o = .inl (some (.ref a))
  | .return_, [] => o = .inl none
  | _, _ => False
/-- 0 plain, 1 a call, 2 a return, 3 a throw -/
def zkind (ins : Instr) (r : List Nat) : Nat := match ins with
  | .invokevirtual _ => if r.length = 3 then 1 else 0
  | .invokestatic _ => if r.length = 3 then 1 else 0
  | .invokespecial _ => if r.length = 3 then 1 else 0
  | .ireturn => 2
  | .lreturn => 2
  | .areturn => 2
  | .return_ => 2
  | .new _ => if r.length = 1 then 3 else 0
  | _ => 0

/-! one instruction goes to one place -/
def ZPt (F : ZNx → Prop) : Prop := ∀ K : ZNx, F K → ∃ i ls st S, K i ls st S ∧ ∀ K' : ZNx, K' i ls st S → F K'
theorem zpt_at {i : Nat} {ls : ZLo} {st : List Value} {S : ZSt} : ZPt (fun K => K i ls st S) := fun _ h => ⟨_, _, _, _, h, fun _ h' => h'⟩
theorem zpt_and {P : Prop} {F : ZNx → Prop} (hF : ZPt F) : ZPt (fun K => P ∧ F K) := fun K h => by
  obtain ⟨i, ls, st, S, h1, h2⟩ := hF K h.2
  exact ⟨i, ls, st, S, h1, fun K' h' => ⟨h.1, h2 K' h'⟩⟩
theorem zpt_no : ZPt (fun _ => False) := fun _ h => h.elim
theorem zpt_if {P : Prop} {F G : ZNx → Prop} (hF : ZPt F) (hG : ZPt G) : ZPt (fun K => (P → F K) ∧ (¬ P → G K)) := fun K h => by
  by_cases hP : P
  · obtain ⟨i, ls, st, S, h1, h2⟩ := hF K (h.1 hP)
    exact ⟨i, ls, st, S, h1, fun K' h' => ⟨fun _ => h2 K' h', fun n => absurd hP n⟩⟩
  · obtain ⟨i, ls, st, S, h1, h2⟩ := hG K (h.2 hP)
    exact ⟨i, ls, st, S, h1, fun K' h' => ⟨fun n => absurd n hP, fun _ => h2 K' h'⟩⟩
theorem zpt_opt {x : Option Nat} {F : ZNx → Prop} {G : Nat → ZNx → Prop} (hF : ZPt F) (hG : ∀ q, ZPt (G q)) : ZPt (fun K => (x = none → F K) ∧ ∀ q, x = some q → G q K) := fun K h => by
  cases x with
  | none =>
    obtain ⟨i, ls, st, S, h1, h2⟩ := hF K (h.1 rfl)
    exact ⟨i, ls, st, S, h1, fun K' h' => ⟨fun _ => h2 K' h', fun q e => (by cases e)⟩⟩
  | some a =>
    obtain ⟨i, ls, st, S, h1, h2⟩ := hG a K (h.2 a rfl)
    exact ⟨i, ls, st, S, h1, fun K' h' => ⟨fun e => (by cases e), fun q e => (by cases e; exact h2 K' h')⟩⟩
theorem zpt_ex {x : Option Nat} {G : Nat → ZNx → Prop} (hG : ∀ q, ZPt (G q)) : ZPt (fun K => ∃ q, x = some q ∧ G q K) := fun K h => by
  obtain ⟨q, e, h⟩ := h
  obtain ⟨i, ls, st, S, h1, h2⟩ := hG q K h
  exact ⟨i, ls, st, S, h1, fun K' h' => ⟨q, e, h2 K' h'⟩⟩
theorem zsw_at {x : Int32} {K : Nat → Prop} : ∀ (ts : List Nat) (lo j : Nat), zsw x K lo ts → x = nI (lo + j) → ∀ t, ts[j]? = some t → K t
  | [], _, _, _, _, _, h => by cases h
  | a :: ts, lo, 0, h, e, t, ht => by
    cases ht
    exact h.1 e
  | a :: ts, lo, j + 1, h, e, t, ht => zsw_at ts (lo + 1) j h.2 (by rw [e]; congr 1; omega) t ht
theorem zsw_of {x : Int32} {K : Nat → Prop} : ∀ (ts : List Nat) (lo j : Nat), lo + ts.length ≤ 4096 → lo + j ≤ 4096 → x = nI (lo + j) → (∀ t, ts[j]? = some t → K t) → zsw x K lo ts
  | [], _, _, _, _, _, _ => trivial
  | a :: ts, lo, 0, hl, _, e, h => by
    refine ⟨fun _ => h a rfl, ?_⟩
    have hz : ∀ (ts : List Nat) (l2 : Nat), lo < l2 → l2 + ts.length ≤ 4096 → zsw x K l2 ts := by
      intro ts
      induction ts with
      | nil => intro l2 _ _; trivial
      | cons b ts ih =>
        intro l2 h2 h3
        rw [List.length_cons] at h3
        refine ⟨fun e2 => ?_, ih (l2 + 1) (by omega) (by omega)⟩
        rw [e] at e2
        have := (nI_eq (a := lo + 0) (b := l2) (by omega) (by omega)).mp e2
        omega
    rw [List.length_cons] at hl
    exact hz ts (lo + 1) (by omega) (by omega)
  | a :: ts, lo, j + 1, hl, hj, e, h => by
    rw [List.length_cons] at hl
    refine ⟨fun e2 => ?_, zsw_of ts (lo + 1) j (by omega) (by omega) (by rw [e]; congr 1; omega) h⟩
    rw [e] at e2
    have := (nI_eq (a := lo + (j + 1)) (b := lo) (by omega) (by omega)).mp e2
    omega
theorem zsw_out {x : Int32} {K : Nat → Prop} : ∀ (ts : List Nat) (lo : Nat), lo + ts.length ≤ 4096 → (x.toInt < (lo : Int) ∨ (lo : Int) + ts.length ≤ x.toInt) → zsw x K lo ts
  | [], _, _, _ => trivial
  | a :: ts, lo, hl, h => by
    rw [List.length_cons] at hl
    refine ⟨fun e => ?_, zsw_out ts (lo + 1) (by omega) ?_⟩
    · rw [e, nI_toInt (by omega)] at h
      rw [List.length_cons] at h
      omega
    · rw [List.length_cons] at h
      rcases h with h | h
      · left; omega
      · right; omega
theorem zpt_sw {x : Int32} {lo dt : Nat} {ts : List Nat} {ls : ZLo} {st : List Value} {S : ZSt} (hb : lo + ts.length ≤ 4096) :
    ZPt (fun K => zsw x (fun tg => K tg ls st S) lo ts ∧ (x.toInt < (lo : Int) ∨ (lo : Int) + ts.length ≤ x.toInt → K dt ls st S)) := fun K h => by
  by_cases hx : x.toInt < (lo : Int) ∨ (lo : Int) + ts.length ≤ x.toInt
  · exact ⟨dt, ls, st, S, h.2 hx, fun K' h' => ⟨zsw_out ts lo hb hx, fun _ => h'⟩⟩
  · have h0 : ¬ x < 0 := fun h9 => by
      have := Int32.lt_iff_toInt_lt.mp h9
      have e0 : (0 : Int32).toInt = 0 := rfl
      omega
    obtain ⟨j, hj, e⟩ := nI_of h0
    have ej : x.toInt = (j : Int) := by rw [e, nI_toInt hj]
    have h1 : lo ≤ j := by omega
    have h2 : j - lo < ts.length := by omega
    obtain ⟨t, ht⟩ : ∃ t, ts[j - lo]? = some t := ⟨_, List.getElem?_eq_getElem h2⟩
    refine ⟨t, ls, st, S, zsw_at ts lo (j - lo) h.1 (by rw [e]; congr 1; omega) t ht, fun K' h' => ⟨zsw_of ts lo (j - lo) hb (by omega) (by rw [e]; congr 1; omega) (fun t2 e2 => ?_), fun n => absurd n hx⟩⟩
    cases ht.symm.trans e2
    exact h'
theorem zpt_ld (t k i : Nat) (ls : ZLo) (st : List Value) (S : ZSt) : ZPt (zld t k i ls st S) := by
  unfold zld
  split <;> first
    | exact zpt_at
    | exact zpt_no
theorem zpt_st1 (k i : Nat) (ls : ZLo) (v : Value) (st : List Value) (S : ZSt) : ZPt (zst1 k i ls v st S) := by
  unfold zst1
  split
  · exact zpt_at
  · exact zpt_no
theorem zpt_st (t k i : Nat) (ls : ZLo) (st : List Value) (S : ZSt) : ZPt (zst t k i ls st S) := by
  unfold zst
  split <;> first
    | exact zpt_st1 _ _ _ _ _ _
    | exact zpt_no
    | (split
       · exact zpt_at
       · exact zpt_no)
theorem zpt_bin (i : Nat) (ls : ZLo) (st : List Value) (S : ZSt) (f : Int32 → Int32 → Int32) : ZPt (fun K => zbin i ls st S K f) := by
  unfold zbin
  split
  · exact zpt_at
  · exact zpt_no
theorem zpt_binL (i : Nat) (ls : ZLo) (st : List Value) (S : ZSt) (f : Int64 → Int64 → Int64) : ZPt (fun K => zbinL i ls st S K f) := by
  unfold zbinL
  split
  · exact zpt_at
  · exact zpt_no
theorem zpt_shL (i : Nat) (ls : ZLo) (st : List Value) (S : ZSt) (f : Int64 → Int32 → Int64) : ZPt (fun K => zshL i ls st S K f) := by
  unfold zshL
  split
  · exact zpt_at
  · exact zpt_no
theorem zpt_get (r : List Nat) (i : Nat) (ls : ZLo) (st : List Value) (S : ZSt) : ZPt (zget r i ls st S) := by
  unfold zget
  split
  · exact zpt_and zpt_at
  · exact zpt_and zpt_at
  · exact zpt_and (zpt_ex fun _ => zpt_at)
  · exact zpt_no
theorem zpt_put (r : List Nat) (i : Nat) (ls : ZLo) (st : List Value) (S : ZSt) : ZPt (zput r i ls st S) := by
  unfold zput
  split
  · exact zpt_and zpt_at
  · exact zpt_and (zpt_and zpt_at)
  · exact zpt_and zpt_at
  · exact zpt_and zpt_at
  · exact zpt_no
theorem zpt_ald (r : List Nat) (i : Nat) (ls : ZLo) (st : List Value) (S : ZSt) : ZPt (zald r i ls st S) := by
  unfold zald
  split
  · exact zpt_and (zpt_and zpt_at)
  · exact zpt_no
set_option maxHeartbeats 4000000 in
theorem zpt (ins : Instr) (r : List Nat) (i : Nat) (ls : ZLo) (st : List Value) (S : ZSt) : ZPt (zv ins r i ls st S) := by
  cases ins <;> first
    | exact zpt_no
    | exact zpt_at
    | exact zpt_ld _ _ _ _ _ _
    | exact zpt_st _ _ _ _ _ _
    | exact zpt_bin _ _ _ _ _
    | exact zpt_binL _ _ _ _ _
    | exact zpt_shL _ _ _ _ _
    | exact zpt_get _ _ _ _ _
    | exact zpt_put _ _ _ _ _
    | exact zpt_ald _ _ _ _ _
    | (show ZPt (fun K => zv _ r i ls st S K); simp only [zv]; split <;> first
        | exact zpt_no
        | exact zpt_at
        | exact zpt_st1 _ _ _ _ _ _
        | exact zpt_and zpt_at
        | exact zpt_and (zpt_and zpt_at)
        | exact zpt_and (zpt_and (zpt_and zpt_at))
        | exact zpt_if zpt_at zpt_at
        | exact zpt_and (zpt_and (zpt_opt zpt_at fun _ => zpt_at))
        | exact zpt_and (zpt_and (zpt_and (zpt_and (zpt_and (zpt_and (zpt_and zpt_at))))))
        | (split
           · first
             | exact zpt_at
             | exact zpt_and zpt_at
             | exact zpt_and (zpt_and (zpt_and (zpt_and (zpt_and (zpt_and (zpt_and zpt_at))))))
             | (rename_i hb
                exact zpt_sw (Nat.le_of_ble_eq_true hb))
           · exact zpt_no))
theorem zv_mono {ins : Instr} {r : List Nat} {i : Nat} {ls : ZLo} {st : List Value} {S : ZSt} {K K' : ZNx} (h : zv ins r i ls st S K) (hK : ∀ i ls st S, K i ls st S → K' i ls st S) : zv ins r i ls st S K' := by
  obtain ⟨i1, l1, s1, S1, h1, h2⟩ := zpt ins r i ls st S K h
  exact h2 K' (hK _ _ _ _ h1)
