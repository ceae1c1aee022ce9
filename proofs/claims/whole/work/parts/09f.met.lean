/-! A method's contract, out of the soundness of its run -/
theorem zchkM_parts {M : ZMt} (h : zchkM M = true) : zchkH M (zmHan M) (zmTab M) = true ∧ zmMaxL M ≤ 20 ∧ zcn (zmOwn M) = (zmName M).cls ∧ zmRc M = zmOwn M ∧ zpcOf M 0 = 0 := by
  obtain ⟨-, h2⟩ := zand h
  obtain ⟨h3, h4⟩ := zand h2
  obtain ⟨h5, h6⟩ := zand h4
  obtain ⟨h7, h8⟩ := zand h6
  obtain ⟨h9, h10⟩ := zand h8
  refine ⟨h3, Nat.le_of_ble_eq_true h5, of_decide_eq_true h7, Nat.eq_of_beq_eq_true h9, ?_⟩
  unfold zpcOf
  split at h10
  · exact Nat.eq_of_beq_eq_true h10
  · cases h10
theorem zdsc_parts {M : ZMt} (h : zdsc M = true) : (∀ sig, parseMethodDescriptor (zmName M).desc = some sig → sig.parameters.length = zmArgs M - (match zmKind M with
    | 0 => 0
    | _ => 1)) ∧ plainName (zmName M).cls = true ∧ ((zmName M).cls ≠ "java/lang/invoke/MethodHandle" ∧ (zmName M).cls ≠ "java/lang/invoke/VarHandle") ∧ zmKind M < 3 ∧ (0 < zmKind M → 1 ≤ zmArgs M) ∧ (zmKind M = 2 → (zmName M).name = "<init>" ∧ zmRet M = none ∧ zmTab M = []) := by
  obtain ⟨h1, h2⟩ := zand h
  obtain ⟨h3, h4⟩ := zand h2
  obtain ⟨h5, h6⟩ := zand h4
  obtain ⟨h7, h8⟩ := zand h6
  obtain ⟨h9, h10⟩ := zand h8
  have hk : zmKind M < 3 := Nat.le_of_ble_eq_true h9
  refine ⟨fun sig hs => ?_, h3, ⟨of_decide_eq_true h5, of_decide_eq_true h7⟩, hk, fun h0 => ?_, fun h2' => ?_⟩
  · have := of_decide_eq_true h1
    rw [hs] at this
    exact Option.some.inj this
  · split at h10
    · rename_i e; omega
    · exact Nat.le_of_ble_eq_true h10
    · exact Nat.le_of_ble_eq_true (zand h10).1
  · rw [h2'] at h10
    obtain ⟨-, h11⟩ := zand h10
    obtain ⟨h12, h13⟩ := zand h11
    obtain ⟨h14, h15⟩ := zand h13
    exact ⟨of_decide_eq_true h12, of_decide_eq_true h14, List.isEmpty_iff.mp h15⟩
theorem zmet {l : Launch} {d mc ms : Nat} {M : ZMt} {cad : Nat → Nat} {tc : Nat → ClassId} {D : va_G} {S0 : ZSt} {A : Nat → Prop} {ws : va_W} {av avR : List Value} {S S1 : ZSt} {o : ZOut} (htr : l.stackTraces = false) (hck : zchkM M = true) (hds : zdsc M = true)
    (hav : zSR cad ws av avR) (hsz : (zargs av).length ≤ zmMaxL M) (hD : va_D A ws) (hR : zRep cad tc ws S) (hKn : zKon S S0)
    (IH : ∀ (p : Program) (e : Env) (s : State) (m : MethodId) (args : Array Value) (below : List Frame) (meth : Method) (c : Code), zCx p l (zrm d mc ms) s m args meth c M cad S0 A →
      zGo p l e (zrm d mc ms) s m args below meth c (vx_MQ below (zQc cad tc D S0 A ws o S1) (zXC cad tc D S0 A ws o S1) args s mc ms A) M cad tc D S0 A ws (zu S) (zz S) 0 (zent (zmMaxL M) av) [] S) :
    vx_Met l (zmName M) (zcodeW M :: zTB) (zrm d mc ms) (zPc cad tc D S0 A ws avR) (zQc cad tc D S0 A ws o S1) (zXC cad tc D S0 A ws o S1) mc ms A := by
  obtain ⟨-, hpl, -, -, -, hini⟩ := zdsc_parts hds
  obtain ⟨-, -, hcn, -, hp0⟩ := zchkM_parts hck
  have body : ∀ (p : Program) (e : Env) (s : State) (m : MethodId) (args : Array Value) (below : List Frame) (meth : Method) (c : Code) (s₁ : State), BodyLoose p l (zmName M) (headSpec (zcodeW M :: zTB) (zrm d mc ms)) (zmCode M) (zmMaxL M) (zmRet M) e s m args below meth c s₁ → c.maxLocals = zmMaxL M → c.exceptionTable.toList = tableOf (zmTab M) →
      zPc cad tc D S0 A ws avR args s → W p l e (headSpec (zcodeW M :: zTB) (zrm d mc ms)).room s m args below meth c s.heap [] 0 0 (vx_MQ below (zQc cad tc D S0 A ws o S1) (zXC cad tc D S0 A ws o S1) args s mc ms A) (entryFrame m args (zmMaxL M)) := by
    intro p e s m args below meth c s₁ B hml htab hPc
    obtain ⟨rfl, hK, hP, hA, hKc, hKw⟩ := hPc
    have hts := atoms_spec (ws := zcodeW M :: zTB) B.pre
    have hown : s.vm.findClass (zcn (zmOwn M)) = some m.cls := by
      rw [hcn]
      exact findClass_of_methodNamed B.named
    have C : zCx p l (zrm d mc ms) s m avR.toArray meth c M cad S0 A := ⟨B.exec, B.bytes, hml, hown, fun w hw => hts w (List.mem_cons_of_mem _ hw), B.notSynchronized, B.returns, fun hk => (name_of_methodNamed B.named B.method).1.trans (hini hk).1, htr, hA, hKc, hKw, htab, Nat.le_add_left _ _, Nat.le_add_left _ _⟩
    obtain ⟨h1, h2⟩ := zent_LR hav hsz
    have h3 := IH p e s m avR.toArray below meth c C ws s.heap [] _ [] ⟨hK, hP, hD, va_S.rf, hR, hKn, zExt.rf⟩ h1 h2 trivial (Nat.le_refl _) (Nat.le_refl _)
    rw [hp0, Nat.sub_self, Nat.sub_self] at h3
    rw [lg_entry_eq]
    exact h3
  cases hT : zmTab M with
  | nil =>
    have hw : zcodeW M = .code (zmName M) (zmCode M) (zmMaxL M) (zmRet M) := by
      unfold zcodeW
      rw [hT]
    exact vx_ofW hpl (by rw [hw]) (fun p e s m args below meth c s₁ B hml ht hPc => body p e s m args below meth c s₁ B hml (by rw [hT]; exact List.eq_nil_iff_forall_not_mem.mpr ht) hPc)
  | cons t ts =>
    have hw : zcodeW M = .codeWith (zmName M) (zmCode M) (zmMaxL M) (zmRet M) (t :: ts) := by
      unfold zcodeW
      rw [hT]
    exact vx_ofWH hpl (by rw [hw]) (fun p e s m args below meth c s₁ B hml hPc => body p e s m args below meth c s₁ B hml (by
      rw [hT]
      exact vx_table (x := zmName M) B (by
        rw [← hw]
        exact atoms_spec (ws := zcodeW M :: zTB) B.pre _ List.mem_cons_self)) hPc)
