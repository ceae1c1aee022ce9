/-! Calls that return or throw: constructors, and private ones across the nest -/
section ZCalls
variable {p : Program} {l : Launch} {e : Env} {R : Room} {s : State} {m : MethodId} {args : Array Value} {below : List Frame} {meth : Method} {c : Code} {T : State} {locs : List Loc} {cells slots : Nat}
/-- what comes of a call -/
def zCame (p : Program) (l : Launch) (e : Env) (R : Room) (s : State) (m : MethodId) (args : Array Value) (below : List Frame) (meth : Method) (c : Code) (T : State) (locs : List Loc) (cells slots : Nat) (Post : Pt → Array Value → Option Value → Pt → Prop) (PostX : Pt → Array Value → Addr → Pt → Prop) (a : Array Value) (g : JFrame) (rest : List Value) : Prop :=
  (∃ (v : Option Value) (vm1 : Vm) (B : Pt), s.WarmedH vm1 ∧ Stand p l e R s m args below meth c B.U B.locs B.cells B.slots ∧ Post ⟨T.setVm vm1, locs, cells, slots⟩ a v B ∧
      ∀ target, Steps p.tables e below (B.U.setTop { g with pc := g.pc + 3, stack := v.toList ++ rest }) target → Steps p.tables e below (T.setTop g) target) ∨
    (∃ (q : Addr) (vm1 : Vm) (B : Pt), s.WarmedH vm1 ∧ Stand p l e R s m args below meth c B.U B.locs B.cells B.slots ∧ PostX ⟨T.setVm vm1, locs, cells, slots⟩ a q B ∧
      Steps p.tables e below (T.setTop g) ((B.U.setTop { g with stack := rest }).pushFrame (.throwing q)))
theorem zx_callI (X : Stand p l e R s m args below meth c T locs cells slots) (hexec : p.tables.exec = Jvm.exec) {own : String} {index : Nat} {y : MethodName} {bytes : ByteArray} {maxL : Nat}
    (hown : s.vm.findClass own = some m.cls) (hy1 : y.name = "<init>") (hlink : (Cond.methodLink own index y).before args s = true) (hinst : (Cond.instanceMethod y).before args s = true)
    (hcode : (Cond.code y bytes maxL none).before args s = true) (hy : y.cls ≠ "java/lang/invoke/MethodHandle" ∧ y.cls ≠ "java/lang/invoke/VarHandle")
    {W9 : Nat} {Pre : Pt → Array Value → Prop} {Post : Pt → Array Value → Option Value → Pt → Prop} {PostX : Pt → Array Value → Addr → Pt → Prop} (hK : vx_Back l R p e below s args y 3 W9 Pre Post PostX)
    {g : JFrame} (hg : g.method = m) (hsize : g.locals.size = c.maxLocals) {a : Addr} {argsL rest : List Value} (hlen : ∀ sig, parseMethodDescriptor y.desc = some sig → argsL.length = sig.parameters.length)
    (hstack : g.stack = argsL.reverse ++ .ref a :: rest) (hW : 2 * g.monitorRoom + (rest.map fun v => v.category).sum ≤ W9) (hdg : decode c.code g.pc = .ok (.invokespecial index, 3))
    (hpre : ∀ vm1, s.WarmedH vm1 → Pre ⟨T.setVm vm1, locs, cells, slots⟩ (Value.ref a :: argsL).toArray) : zCame p l e R s m args below meth c T locs cells slots Post PostX (Value.ref a :: argsL).toArray g rest := by
  subst hg
  have hpl : e.platform.magicAccessors = ({} : Platform).magicAccessors := by rw [X.admits.platform]
  obtain ⟨mk, methM, cM, kP, vm1, hnamed, hmethM, hcodeM, -, hlocalsM, -, hkP, -, hW1, hstep1⟩ := Steps.initColdArgs (e := e) X.here hexec X.warmed hpl hown hy1 hy hlink hinst hcode (f := g) rfl hlen hstack hdg
  have X1 := X.noted hW1
  rcases hK g.method meth c ⟨T.setVm vm1, locs, cells, slots⟩ { g with stack := rest } (.invokespecial index) mk (Value.ref a :: argsL).toArray X1 rfl hsize hdg hW (X1.named hnamed) (hpre vm1 X1.warmed) with ⟨v, B, X', hpost, hsteps⟩ | ⟨q, B, X', hpost, hsteps⟩
  · exact Or.inl ⟨v, vm1, B, X1.warmed, X', hpost, fun target h => hstep1 _ fun acts => by rw [doInvoke_state]; exact hsteps.trans h⟩
  · exact Or.inr ⟨q, vm1, B, X1.warmed, X', hpost, hstep1 _ fun acts => by rw [doInvoke_state]; exact hsteps⟩
theorem zx_callIN (X : Stand p l e R s m args below meth c T locs cells slots) (hexec : p.tables.exec = Jvm.exec) {own host : String} {index : Nat} {y : MethodName} {bytes : ByteArray} {maxL : Nat}
    (hown : s.vm.findClass own = some m.cls) (hy1 : y.name = "<init>") (hlink : (Cond.methodLinkNest own index y host).before args s = true) (hinst : (Cond.instanceMethod y).before args s = true)
    (hcode : (Cond.code y bytes maxL none).before args s = true) (hy : y.cls ≠ "java/lang/invoke/MethodHandle" ∧ y.cls ≠ "java/lang/invoke/VarHandle")
    {W9 : Nat} {Pre : Pt → Array Value → Prop} {Post : Pt → Array Value → Option Value → Pt → Prop} {PostX : Pt → Array Value → Addr → Pt → Prop} (hK : vx_Back l R p e below s args y 3 W9 Pre Post PostX)
    {g : JFrame} (hg : g.method = m) (hsize : g.locals.size = c.maxLocals) {a : Addr} {argsL rest : List Value} (hlen : ∀ sig, parseMethodDescriptor y.desc = some sig → argsL.length = sig.parameters.length)
    (hstack : g.stack = argsL.reverse ++ .ref a :: rest) (hW : 2 * g.monitorRoom + (rest.map fun v => v.category).sum ≤ W9) (hdg : decode c.code g.pc = .ok (.invokespecial index, 3))
    (hpre : ∀ vm1, s.WarmedH vm1 → Pre ⟨T.setVm vm1, locs, cells, slots⟩ (Value.ref a :: argsL).toArray) : zCame p l e R s m args below meth c T locs cells slots Post PostX (Value.ref a :: argsL).toArray g rest := by
  subst hg
  have hpl : e.platform.magicAccessors = ({} : Platform).magicAccessors := by rw [X.admits.platform]
  obtain ⟨mk, methM, cM, kP, vm1, hnamed, hmethM, hcodeM, -, hlocalsM, -, hkP, -, hW1, hstep1⟩ := Steps.initColdArgsNest (e := e) X.here hexec X.warmed hpl hown hy1 hy hlink hinst hcode (f := g) rfl hlen hstack hdg
  have X1 := X.noted hW1
  rcases hK g.method meth c ⟨T.setVm vm1, locs, cells, slots⟩ { g with stack := rest } (.invokespecial index) mk (Value.ref a :: argsL).toArray X1 rfl hsize hdg hW (X1.named hnamed) (hpre vm1 X1.warmed) with ⟨v, B, X', hpost, hsteps⟩ | ⟨q, B, X', hpost, hsteps⟩
  · exact Or.inl ⟨v, vm1, B, X1.warmed, X', hpost, fun target h => hstep1 _ fun acts => by rw [doInvoke_state]; exact hsteps.trans h⟩
  · exact Or.inr ⟨q, vm1, B, X1.warmed, X', hpost, hstep1 _ fun acts => by rw [doInvoke_state]; exact hsteps⟩
theorem zx_callSN (X : Stand p l e R s m args below meth c T locs cells slots) (hexec : p.tables.exec = Jvm.exec) {own host : String} {index : Nat} {y : MethodName} {bytes : ByteArray} {maxL : Nat} {ret : Option FieldType}
    (hown : s.vm.findClass own = some m.cls) (hlink : (Cond.methodLinkNest own index y host).before args s = true) (hstat : (Cond.static y).before args s = true) (hinit : (Cond.initialized y.cls).before args s = true)
    (hcode : (Cond.code y bytes maxL ret).before args s = true) (hy : y.cls ≠ "java/lang/invoke/MethodHandle" ∧ y.cls ≠ "java/lang/invoke/VarHandle")
    {W9 : Nat} {Pre : Pt → Array Value → Prop} {Post : Pt → Array Value → Option Value → Pt → Prop} {PostX : Pt → Array Value → Addr → Pt → Prop} (hK : vx_Back l R p e below s args y 3 W9 Pre Post PostX)
    {g : JFrame} (hg : g.method = m) (hsize : g.locals.size = c.maxLocals) {argsL rest : List Value} (hlen : ∀ sig, parseMethodDescriptor y.desc = some sig → argsL.length = sig.parameters.length)
    (hstack : g.stack = argsL.reverse ++ rest) (hW : 2 * g.monitorRoom + (rest.map fun v => v.category).sum ≤ W9) (hdg : decode c.code g.pc = .ok (.invokestatic index, 3))
    (hpre : ∀ vm1, s.WarmedH vm1 → Pre ⟨T.setVm vm1, locs, cells, slots⟩ argsL.toArray) : zCame p l e R s m args below meth c T locs cells slots Post PostX argsL.toArray g rest := by
  obtain ⟨mk, hnamed⟩ := Cond.code_named hcode
  obtain ⟨methM, cM, hmethM, -, -, -, -, -, -, hsigM⟩ := Cond.code_spec hnamed hcode
  have hstatic : methM.isStatic = true := Cond.static_spec hnamed hmethM hstat
  obtain ⟨kP, hkP, -⟩ := className_of_methodNamed hnamed
  have hinitP : kP.init = .initialized := Cond.initialized_spec (findClass_of_methodNamed hnamed) hkP hinit
  obtain ⟨vm1, X1, hstep1⟩ := X.invokestaticNest hexec hown hlink hnamed hmethM hstatic hkP hinitP hy (g := g) hg (argsL := argsL) (rest := rest) (hlen _ hsigM) hstack hdg
  rcases hK m meth c ⟨T.setVm vm1, locs, cells, slots⟩ { g with stack := rest } (.invokestatic index) mk argsL.toArray X1 hg hsize hdg hW (X1.named hnamed) (hpre vm1 X1.warmed) with ⟨v, B, X', hpost, hsteps⟩ | ⟨q, B, X', hpost, hsteps⟩
  · exact Or.inl ⟨v, vm1, B, X1.warmed, X', hpost, fun target h => hstep1 _ fun acts => by rw [doInvoke_state]; exact hsteps.trans h⟩
  · exact Or.inr ⟨q, vm1, B, X1.warmed, X', hpost, hstep1 _ fun acts => by rw [doInvoke_state]; exact hsteps⟩
end ZCalls
/-! cells and slots only grow -/
def ZPu (S : ZSt) (F : ZNx → Prop) : Prop := ∀ K : ZNx, F K → ∃ i ls st S1, K i ls st S1 ∧ zu S ≤ zu S1 ∧ zz S ≤ zz S1
theorem zpu_of {S : ZSt} {F : ZNx → Prop} (h : ∀ K : ZNx, F K → F (fun i ls st S1 => K i ls st S1 ∧ zu S ≤ zu S1 ∧ zz S ≤ zz S1)) (hp : ZPt F) : ZPu S F := fun K hK => by
  obtain ⟨i, ls, st, S1, h1, -⟩ := hp _ (h K hK)
  exact ⟨i, ls, st, S1, h1⟩
theorem zpu_at {S : ZSt} {i : Nat} {ls : ZLo} {st : List Value} {S1 : ZSt} (h : zu S ≤ zu S1 ∧ zz S ≤ zz S1) : ZPu S (fun K => K i ls st S1) := fun _ hK => ⟨_, _, _, _, hK, h⟩
theorem zpu_and {S : ZSt} {P : Prop} {F : ZNx → Prop} (hF : ZPu S F) : ZPu S (fun K => P ∧ F K) := fun K h => hF K h.2
theorem zpu_no {S : ZSt} : ZPu S (fun _ => False) := fun _ h => h.elim
theorem zpu_if {S : ZSt} {P : Prop} {F G : ZNx → Prop} (hF : ZPu S F) (hG : ZPu S G) : ZPu S (fun K => (P → F K) ∧ (¬ P → G K)) := fun K h => by
  by_cases hP : P
  · exact hF K (h.1 hP)
  · exact hG K (h.2 hP)
theorem zpu_opt {S : ZSt} {x : Option Nat} {F : ZNx → Prop} {G : Nat → ZNx → Prop} (hF : ZPu S F) (hG : ∀ q, ZPu S (G q)) : ZPu S (fun K => (x = none → F K) ∧ ∀ q, x = some q → G q K) := fun K h => by
  cases x with
  | none => exact hF K (h.1 rfl)
  | some a => exact hG a K (h.2 a rfl)
theorem zpu_ex {S : ZSt} {x : Option Nat} {G : Nat → ZNx → Prop} (hG : ∀ q, ZPu S (G q)) : ZPu S (fun K => ∃ q, x = some q ∧ G q K) := fun K h => by
  obtain ⟨q, -, h⟩ := h
  exact hG q K h
theorem zle (S : ZSt) : zu S ≤ zu S ∧ zz S ≤ zz S := ⟨Nat.le_refl _, Nat.le_refl _⟩
theorem zle_new (S : ZSt) (t n sl : Nat) (f : Nat → Int32) : zu S ≤ zu (zNew S t n sl f) ∧ zz S ≤ zz (zNew S t n sl f) := ⟨Nat.le_succ _, Nat.le_add_right _ _⟩
theorem zpu_sw {x : Int32} {lo dt : Nat} {ts : List Nat} {ls : ZLo} {st : List Value} {S : ZSt} (hb : lo + ts.length ≤ 4096) :
    ZPu S (fun K => zsw x (fun tg => K tg ls st S) lo ts ∧ (x.toInt < (lo : Int) ∨ (lo : Int) + ts.length ≤ x.toInt → K dt ls st S)) :=
  zpu_of (fun K h => ⟨zsw_imp ts lo h.1 (fun tg h => ⟨h, zle S⟩), fun h9 => ⟨h.2 h9, zle S⟩⟩) (zpt_sw hb)
theorem zpu_st1 (k i : Nat) (ls : ZLo) (v : Value) (st : List Value) (S : ZSt) : ZPu S (zst1 k i ls v st S) := by
  unfold zst1
  split
  · exact zpu_at (zle S)
  · exact zpu_no
set_option maxHeartbeats 4000000 in
theorem zpu (ins : Instr) (r : List Nat) (i : Nat) (ls : ZLo) (st : List Value) (S : ZSt) : ZPu S (zv ins r i ls st S) := by
  cases ins <;> first
    | exact zpu_no
    | exact zpu_at (zle S)
    | (show ZPu S (fun K => zv _ r i ls st S K); simp only [zv, zld, zst, zbin, zbinL, zshL, zget, zput, zald]; split <;> first
        | exact zpu_no
        | exact zpu_at (zle S)
        | exact zpu_st1 _ _ _ _ _ _
        | exact zpu_and (zpu_at (zle S))
        | exact zpu_and (zpu_and (zpu_at (zle S)))
        | exact zpu_and (zpu_and (zpu_and (zpu_at (zle S))))
        | exact zpu_and (zpu_ex fun _ => zpu_at (zle S))
        | exact zpu_if (zpu_at (zle S)) (zpu_at (zle S))
        | exact zpu_and (zpu_and (zpu_opt (zpu_at (zle S)) fun _ => zpu_at (zle S)))
        | exact zpu_at (zle_new _ _ _ _ _)
        | exact zpu_and (zpu_and (zpu_at (zle_new _ _ _ _ _)))
        | (split
           · first
             | exact zpu_at (zle S)
             | exact zpu_and (zpu_at (zle_new _ _ _ _ _))
             | exact zpu_and (zpu_and (zpu_and (zpu_and (zpu_and (zpu_and (zpu_and (zpu_at (zle S))))))))
             | (rename_i hb
                exact zpu_sw (Nat.le_of_ble_eq_true hb))
           · exact zpu_no))
theorem zRuns_u : ∀ (n : Nat) {d : Nat} {M : ZMt} {i : Nat} {ls : ZLo} {st : List Value} {S : ZSt} {o : ZOut} {S' : ZSt}, zRuns n d M i ls st S o S' → zu S ≤ zu S' ∧ zz S ≤ zz S'
  | 0, _, _, _, _, _, _, _, _, h => h.elim
  | n + 1, d, M, i, ls, st, S, o, S', h => by
    rw [zRuns] at h
    split at h
    · exact h.elim
    · split at h
      · obtain ⟨i1, l1, s1, S1, h1, h2⟩ := zpu _ _ _ _ _ _ _ h
        have h3 := zRuns_u n h1
        omega
      · split at h
        · obtain ⟨h0, h1, h2, h3, h4, o1, S1, h5, h6⟩ := h
          have h7 := zRuns_u n h5
          unfold zback at h6
          split at h6
          · have h8 := zRuns_u n h6
            omega
          · have h8 := zRuns_u n h6
            omega
          · split at h6
            · have h8 := zRuns_u n h6
              omega
            · split at h6
              · obtain ⟨-, rfl⟩ := h6
                exact h7
              · exact h6.elim
        · exact h.elim
      · rw [h.2]
        exact zle S
      · split at h
        · rw [h.2]
          exact ⟨Nat.le_succ _, Nat.le_add_right _ _⟩
        · exact h.elim
      · exact h.elim
