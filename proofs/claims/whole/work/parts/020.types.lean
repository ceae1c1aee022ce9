/-! The program's shape: instructions with their operands resolved, methods. Own words: z.. -/
/-- pc, instruction, length, operands resolved -/
abbrev ZOp : Type := Nat × Instr × Nat × List Nat
/-- own class, name, bytes, locals, return type, handlers, (kind, words of arguments, height, receiver's class), handlers resolved (from, to, target, what), instructions by sixteens -/
abbrev ZMt : Type := Nat × MethodName × ByteArray × Nat × Option FieldType × List (Nat × Nat × Nat × Nat) × (Nat × Nat × Nat × Nat) × List (Nat × Nat × Nat × Nat) × List (List ZOp)
def zmOwn (M : ZMt) : Nat := M.1
def zmName (M : ZMt) : MethodName := M.2.1
def zmCode (M : ZMt) : ByteArray := M.2.2.1
def zmMaxL (M : ZMt) : Nat := M.2.2.2.1
def zmRet (M : ZMt) : Option FieldType := M.2.2.2.2.1
def zmTab (M : ZMt) : List (Nat × Nat × Nat × Nat) := M.2.2.2.2.2.1
def zmKind (M : ZMt) : Nat := M.2.2.2.2.2.2.1.1
def zmArgs (M : ZMt) : Nat := M.2.2.2.2.2.2.1.2.1
def zmHt (M : ZMt) : Nat := M.2.2.2.2.2.2.1.2.2.1
def zmRc (M : ZMt) : Nat := M.2.2.2.2.2.2.1.2.2.2
def zmHan (M : ZMt) : List (Nat × Nat × Nat × Nat) := M.2.2.2.2.2.2.2.1
def zmOps (M : ZMt) : List (List ZOp) := M.2.2.2.2.2.2.2.2
def zop (M : ZMt) (i : Nat) : Option ZOp := match (zmOps M)[i / 16]? with
  | some l => l[i % 16]?
  | none => none
