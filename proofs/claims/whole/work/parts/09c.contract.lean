/-! A method's contract, out of a run of the little machine -/
def zrm (d mc ms : Nat) : Room := { frames := d + 20, cells := mc, slots := ms, locals := 120 * d + 300 }
def zPc (cad : Nat → Nat) (tc : Nat → ClassId) (D : va_G) (S0 : ZSt) (A : Nat → Prop) (ws : va_W) (avR : List Value) : Array Value → State → Prop := fun a U =>
  a = avR.toArray ∧ va_K D vwCl (ztys tc) U ∧ va_P D vwCl ws U.heap ∧ (∀ q, U.heap.size ≤ q → A q) ∧ zKc cad S0 A U U.heap ∧ zKw cad U
/-- the world in which a method leaves the heap -/
def zOut (cad : Nat → Nat) (tc : Nat → ClassId) (D : va_G) (S0 : ZSt) (A : Nat → Prop) (ws0 ws' : va_W) (S' : ZSt) (st t : State) : Prop :=
  va_P D vwCl ws' t.heap ∧ va_D A ws' ∧ zRep cad tc ws' S' ∧ zKon S' S0 ∧ zExt ws0 ws' ∧ va_F A st t
def zRes (cad : Nat → Nat) (ws' : va_W) (o : ZOut) (V : Option Value) : Prop := match o with
  | .inl none => V = none
  | .inl (some v) => ∃ V', V = some V' ∧ zV cad ws' v V'
  | .inr _ => False
def zQc (cad : Nat → Nat) (tc : Nat → ClassId) (D : va_G) (S0 : ZSt) (A : Nat → Prop) (ws0 : va_W) (o : ZOut) (S' : ZSt) : Array Value → State → Outcome → State → Prop := fun _ st oc t =>
  ∃ V ws', oc = .returned V ∧ zRes cad ws' o V ∧ zOut cad tc D S0 A ws0 ws' S' st t
def zXC (cad : Nat → Nat) (tc : Nat → ClassId) (D : va_G) (S0 : ZSt) (A : Nat → Prop) (ws0 : va_W) (o : ZOut) (S' : ZSt) : String → State → State → Prop := fun E st t =>
  ∃ ws' x, o = .inr x ∧ x < 4 ∧ E = zexn.getD x "" ∧ zOut cad tc D S0 A ws0 ws' S' st t
theorem zKc.moved {cad : Nat → Nat} {S0 : ZSt} {A : Nat → Prop} {u U : State} {H H1 : Heap} (h : zKc cad S0 A u H) (hvm : u.vm.Alike U.vm) (hq : ∀ a : Nat, a < H.size → ¬ A a → H1[a]? = H[a]?) : zKc cad S0 A U H1 := by
  obtain ⟨h1, h2, h3, h4, h5, h6, h7, h8, h9, h10⟩ := h
  refine ⟨h1, fun k a b => va_T.kept (va_T.moved hvm (h2 k a b)) hq, fun k a b => va_T.kept (va_T.moved hvm (h3 k a b)) hq, fun k a b => ?_, fun k a b => va_Z.kept (va_Z.moved hvm (h5 k a b)) hq, fun k a b => ?_, va_Z.kept (va_Z.moved hvm h7) hq, va_Zq.kept (va_Zq.moved hvm h8) hq, vx_Zq.kept (vx_Zq.moved hvm h9) hq, vx_Zq.kept (vx_Zq.moved hvm h10) hq⟩
  · obtain ⟨a1, a2, b0, a3, a4, a5⟩ := h4 k a b
    exact ⟨va_O.kept (va_O.moved hvm a1) hq, va_OF.kept (va_OF.moved hvm a2) hq, b0, a3, a4, va_OF.kept (va_OF.moved hvm a5) hq⟩
  · obtain ⟨cell, a1, a2, a3, a4⟩ := h6 k a b
    exact ⟨cell, by rw [hq _ (Array.getElem?_eq_some_iff.mp a1).1 a4]; exact a1, by rw [hvm.findClass]; exact a2, a3, a4⟩
theorem zKw.moved {cad : Nat → Nat} {s U : State} (h : zKw cad s) (hW : s.WarmedH U.vm) : zKw cad U := by
  obtain ⟨h1, h2, h3, h4, h5, h6, h7, h8, h9⟩ := h
  refine ⟨fun q hq => vk_R.warm hW (h1 q hq), fun q hq => va_Nw.warmM hW (h2 q hq), va_AO.moved hW.alike h3, va_AO.moved hW.alike h4, va_AO.moved hW.alike h5, va_Nw.warmC hW h6, fun x hx => va_Nw.warmC hW (h7 x hx), fun x y a b c => va_Nc.moved hW.alike (h8 x y a b c), fun w hw hb => ?_⟩
  have h := h9 w hw hb
  cases w with
  | castable a b => exact va_Nw.warmC hW h
  | declares a => exact va_Nw.warmD hW h
  | methodLinkNest a b c d => exact va_Nw.warmM hW h
  | _ => cases hb
theorem zPc.blind {cad : Nat → Nat} {tc : Nat → ClassId} {D : va_G} {S0 : ZSt} {A : Nat → Prop} {ws : va_W} {avR : List Value} : FrameBlind (zPc cad tc D S0 A ws avR) := by
  intro a U g mk h
  obtain ⟨h1, h2, h3, h4, h5, h6⟩ := h
  exact ⟨h1, va_K.moved (Vm.Alike.refl _) h2, h3, h4, h5.moved (Vm.Alike.refl _) (fun _ _ _ => rfl), h6.moved (State.WarmedH.refl U)⟩
