/-! The call -/
set_option maxRecDepth 100000 in
theorem zML_law : zML.all (fun q => decide (zmName (zP q.2.2.2) ≠ zmName m_L_law)) = true := by decide +kernel
set_option maxRecDepth 100000 in
theorem zNL_law : zNL.all (fun q => decide (zmName (zP q.2.2) ≠ zmName m_L_law) && (List.isEmpty (zmTab (zP q.2.2)) && !Nat.beq (zmKind (zP q.2.2)) 1)) = true := by decide +kernel
theorem zP_all {f : ZMt → Bool} (h : zPl.all (fun l => l.all f) = true) (hl : f m_L_law = true) (k : Nat) : f (zP k) = true := by
  unfold zP
  split
  · rename_i l hl9
    have h1 := List.all_eq_true.mp (List.all_eq_true.mp h l (List.mem_of_getElem? hl9))
    rw [List.getD_eq_getElem?_getD]
    cases hk : l[k % 16]? with
    | none => exact hl
    | some M => exact h1 M (List.mem_of_getElem? hk)
  · exact hl
def zrcOk (M : ZMt) : Bool := !Nat.beq (zmKind M) 1 || (Nat.blt (zmOwn M) 13 || Nat.beq (zmOwn M) 15)
set_option maxRecDepth 100000 in
theorem zrc_all : zPl.all (fun l => l.all zrcOk) = true := by decide +kernel
theorem zrc_at {k : Nat} (h : zmKind (zP k) = 1) : zmOwn (zP k) < 13 ∨ zmOwn (zP k) = 15 := by
  have h1 : (!Nat.beq (zmKind (zP k)) 1 || (Nat.blt (zmOwn (zP k)) 13 || Nat.beq (zmOwn (zP k)) 15)) = true := zP_all (f := zrcOk) zrc_all (by decide +kernel) k
  rw [h] at h1
  rcases zor h1 with h2 | h2
  · cases h2
  · rcases zor h2 with h3 | h3
    · exact Or.inl (Nat.le_of_ble_eq_true h3)
    · exact Or.inr (Nat.eq_of_beq_eq_true h3)
theorem zlink_spec {own x k : Nat} (h : zlink own x k = true) : zMok (zP k) ∧ (Cond.methodLink (zcn own) x (zmName (zP k)) ∈ zTB ∨ ((own, x, k) ∈ zNL ∧ zmTab (zP k) = [] ∧ zmKind (zP k) ≠ 1)) := by
  rcases zor h with h | h
  · obtain ⟨⟨j, q⟩, hq, he⟩ := List.any_eq_true.mp h
    have he : q = (own, x, k) := by simpa using he
    subst he
    have h1 : zmName (zP k) ≠ zmName m_L_law := of_decide_eq_true (List.all_eq_true.mp zML_law _ hq)
    rcases (zP_ev k).1 with h2 | h2
    · exact absurd h2 h1
    · exact ⟨h2, Or.inl (zhas_in (List.all_eq_true.mp zML_ok _ hq))⟩
  · obtain ⟨q, hq, he⟩ := List.any_eq_true.mp h
    have he : q = (own, x, k) := by simpa using he
    subst he
    obtain ⟨h1, h3⟩ := zand (List.all_eq_true.mp zNL_law _ hq)
    obtain ⟨h4, h5⟩ := zand h3
    have h1 : zmName (zP k) ≠ zmName m_L_law := of_decide_eq_true h1
    rcases (zP_ev k).1 with h2 | h2
    · exact absurd h2 h1
    · refine ⟨h2, Or.inr ⟨hq, List.isEmpty_iff.mp h4, fun h6 => ?_⟩⟩
      have h5 : (!Nat.beq (zmKind (zP k)) 1) = true := h5
      rw [h6] at h5
      cases h5
theorem znl_use {own x k : Nat} {a : Array Value} {U : State} (h : va_Nw (zNLw (own, x, k)) U) : (Cond.methodLinkNest (zcn own) x (zmName (zP k)) RX11).before a U = true := by
  have h1 : va_Nw (.methodLinkNest (zcn own) x (zmName (zP k)) RX11) U := h
  exact va_Nw.use rfl h1
theorem zloc {d x L mc ms : Nat} (hd : 0 < d) (hx : x ≤ 20) (h : 120 * d + 300 ≤ L) : 80 + (x + 11) + (zrm (d - 1) mc ms).locals ≤ L := by
  have e : (zrm (d - 1) mc ms).locals = 120 * (d - 1) + 300 := rfl
  omega
theorem zfrm {d L mc ms : Nat} (hd : 0 < d) (h : d + 20 ≤ L) : (zrm (d - 1) mc ms).frames + 1 ≤ L := by
  have e : (zrm (d - 1) mc ms).frames = d - 1 + 20 := rfl
  omega
section ZCall
variable {p : Program} {l : Launch} {e : Env} {R : Room} {s : State} {m : MethodId} {args : Array Value} {below : List Frame} {meth : Method} {c : Code} {M : ZMt} {cad : Nat → Nat} {tc : Nat → ClassId} {D : va_G} {S0 : ZSt} {A : Nat → Prop} {ws0 : va_W} {c0 z0 : Nat}
variable {d i pc len k mm kd : Nat} {ins : Instr} {ls : ZLo} {st : List Value} {S S1 S' : ZSt} {o o1 : ZOut}
set_option maxHeartbeats 8000000 in
theorem zs_call (C : zCx p l R s m args meth c M cad S0 A) (hg : zchkM M = true) (hop : zop M i = some (pc, ins, len, [k, mm, kd])) (hd : decode (zmCode M) pc = .ok (ins, len)) (hck : zchk M i (pc, ins, len, [k, mm, kd]) = true) (hk : zkind ins [k, mm, kd] = 1)
    (hlen : mm ≤ st.length ∧ st.length ≤ 40) (ha : mm = zmArgs (zP k)) (hsz : (zargs (zpop mm st)).length ≤ zmMaxL (zP k)) (hrc : zrcv (zP k) (zpop mm st) S) (hd0 : 0 < d) (hRf1 : d + 20 ≤ R.frames) (hRl1 : 120 * d + 300 ≤ R.locals) (hcell : zu S1 - c0 ≤ R.cells) (hslot : zz S1 - z0 ≤ R.slots) (hu : zu S ≤ zu S1 ∧ zz S ≤ zz S1)
    (IH : ∀ (ws : va_W) (p : Program) (e : Env) (s : State) (m : MethodId) (args : Array Value) (below : List Frame) (meth : Method) (c : Code), zCx p l (zrm (d - 1) (zu S1 - zu S) (zz S1 - zz S)) s m args meth c (zP k) cad S0 A →
      zGo p l e (zrm (d - 1) (zu S1 - zu S) (zz S1 - zz S)) s m args below meth c (vx_MQ below (zQc cad tc D S0 A ws o1 S1) (zXC cad tc D S0 A ws o1 S1) args s (zu S1 - zu S) (zz S1 - zz S) A) (zP k) cad tc D S0 A ws (zu S) (zz S) 0 (zent (zmMaxL (zP k)) (zpop mm st)) [] S)
    (hb : zback M pc i ls (st.drop mm) (fun i1 l1 s1 S2 => zGo p l e R s m args below meth c (vx_MQ below (zQc cad tc D S0 A ws0 o S') (zXC cad tc D S0 A ws0 o S') args s (zu S' - c0) (zz S' - z0) A) M cad tc D S0 A ws0 c0 z0 i1 l1 s1 S2) (fun x S2 => o = .inr x ∧ S' = S2) o1 S1) :
    zGo p l e R s m args below meth c (vx_MQ below (zQc cad tc D S0 A ws0 o S') (zXC cad tc D S0 A ws0 o S') args s (zu S' - c0) (zz S' - z0) A) M cad tc D S0 A ws0 c0 z0 i ls st S := by
  have hp : zpcOf M i = pc := by
    unfold zpcOf
    rw [hop]
  intro ws H locs ar sr hW hL hl hS hc hz
  have C9 := C
  obtain ⟨hx, hb9, hml, hown, hts, hlk, hrt, hin, htr, hA, hKc, hKw, htab, hRf, hRl⟩ := C9
  have hW9 := hW
  obtain ⟨hK, hP, hD, hSS, hR, hKn, hX⟩ := hW9
  obtain ⟨avR, rest, rfl, hav, hrest, hal⟩ := hS.args mm
  have hpl : (zpop mm st).length = mm := by
    unfold zpop
    rw [List.length_reverse, List.length_take]
    omega
  obtain ⟨-, hN1, hN2⟩ := zP_ev k
  obtain ⟨hdl, -, hy, hk3, hk1, hk2⟩ := zdsc_parts hN2
  obtain ⟨-, hmax, hcn, hrco, -⟩ := zchkM_parts hN1
  have hMet := zmet htr hN1 hN2 hav hsz hD hR hKn (IH ws)
  have hcat := hrest.cats
  have hW80 : 2 * (F0 m pc ar (avR.reverse ++ rest)).monitorRoom + (rest.map fun v => v.category).sum ≤ 80 := by
    show 2 * 0 + _ ≤ 80
    rw [List.length_drop] at hcat
    omega
  have hback : zMok (zP k) → vx_Back l R p e below s args (zmName (zP k)) 3 80 (PreOf R (zu S1 - zu S) (zz S1 - zz S) (zPc cad tc D S0 A ws avR)) (PostOf (zQc cad tc D S0 A ws o1 S1) (zu S1 - zu S) (zz S1 - zz S) A) (vx_Post (zXC cad tc D S0 A ws o1 S1) (zu S1 - zu S) (zz S1 - zz S) A) := fun hok => by
    have hws : ∀ w ∈ zcodeW (zP k) :: zTB, ∀ (a' : Array Value) (U : State), s.WarmedH U.vm → w.before a' U = true := fun w hw a' U hWm => by
      have hw9 : w ∈ zTB := by
        rcases List.mem_cons.mp hw with rfl | hw
        · exact hok.1
        · exact hw
      exact word_at hWm (zTB_good hw9) (hts w hw9)
    cases hT : zmTab (zP k) with
    | nil =>
      have hcw : zcodeW (zP k) = .code (zmName (zP k)) (zmCode (zP k)) (zmMaxL (zP k)) (zmRet (zP k)) := by
        unfold zcodeW
        rw [hT]
      exact vx_back (bytes := zmCode (zP k)) (maxL := zmMaxL (zP k)) (ret := zmRet (zP k)) hMet zPc.blind rfl rfl (zfrm hd0 hRf1) (zloc hd0 hmax hRl1) hws (by rw [hcw]; exact List.mem_cons_self) (fun a' U hWm => hws _ (List.mem_cons_of_mem _ hok.2.1) a' U hWm)
    | cons t ts =>
      have hcw : zcodeW (zP k) = .codeWith (zmName (zP k)) (zmCode (zP k)) (zmMaxL (zP k)) (zmRet (zP k)) (t :: ts) := by
        unfold zcodeW
        rw [hT]
      exact vx_backW (bytes := zmCode (zP k)) (maxL := zmMaxL (zP k)) (ret := zmRet (zP k)) (hh := t :: ts) hMet zPc.blind rfl rfl (zfrm hd0 hRf1) (zloc hd0 hmax hRl1) hws (by rw [hcw]; exact List.mem_cons_self) (fun a' U hWm => hws _ (List.mem_cons_of_mem _ hok.2.1) a' U hWm)
  intro T hT X
  have hpre : ∀ vm1, s.WarmedH vm1 → PreOf R (zu S1 - zu S) (zz S1 - zz S) (zPc cad tc D S0 A ws avR) ⟨T.setVm vm1, locs, zu S - c0, zz S - z0⟩ avR.toArray := fun vm1 hW1 => by
    refine ⟨by show zu S - c0 + (zu S1 - zu S) ≤ R.cells; omega, by show zz S - z0 + (zz S1 - zz S) ≤ R.slots; omega, rfl, va_K.moved (U := T.setVm vm1) hW1.alike hK, by rw [show (T.setVm vm1).heap = H from hT]; exact hP, fun q hq => ?_, ?_, zKw.moved (U := T.setVm vm1) hKw hW1⟩
    · have hq : H.size ≤ q := by rw [← hT]; exact hq
      exact hA q (Nat.le_trans hSS.1 hq)
    · show zKc cad S0 A (T.setVm vm1) (T.setVm vm1).heap
      rw [show (T.setVm vm1).heap = H from hT]
      exact zKc.moved (U := T.setVm vm1) hKc hW1.alike (fun q h1 h2 => hSS.2.1 q h1 h2)
  have hsize : (F0 m pc ar (avR.reverse ++ rest)).locals.size = c.maxLocals := by
    show ar.size = _
    rw [hL.1, hl, hml]
  rw [hp]
  have fin : ∀ a, znx M i pc 3 = true → zCame p l e R s m args below meth c T locs (zu S - c0) (zz S - z0) (PostOf (zQc cad tc D S0 A ws o1 S1) (zu S1 - zu S) (zz S1 - zz S) A) (vx_Post (zXC cad tc D S0 A ws o1 S1) (zu S1 - zu S) (zz S1 - zz S) A) a (F0 m pc ar (avR.reverse ++ rest)) rest →
      ∃ t, Steps p.tables e below (T.setTop (F0 m pc ar (avR.reverse ++ rest))) t ∧ vx_MQ below (zQc cad tc D S0 A ws0 o S') (zXC cad tc D S0 A ws0 o S') args s (zu S' - c0) (zz S' - z0) A t := fun a hnx hcame =>
    zs_back C hg (znx_spec hnx) hW hL hl hrest hc hz hu hT hcame hb
  have hrecv : 0 < zmKind (zP k) → ∃ b argsL kb, avR = .ref b :: argsL ∧ zA cad ws kb b ∧ zc S kb = zmRc (zP k) ∧ argsL.length + 1 = zmArgs (zP k) := fun h0 => by
    unfold zrcv at hrc
    split at hrc
    · omega
    · rename_i kb tl hk9 hpop
      rw [hpop] at hav
      obtain ⟨V, sr', rfl, ⟨b, rfl, hbA⟩, hS9⟩ := hav.cons
      refine ⟨b, sr', kb, rfl, hbA, hrc, ?_⟩
      rw [hpl, List.length_cons] at hal
      omega
    · exact hrc.elim
  cases ins with
  | invokevirtual x =>
    have hck9 : (Nat.beq len 3 && (match (generalizing := false) ([k, mm, kd] : List Nat) with
      | [t] => znx M i pc 3 && (zP_clone.any (fun q => q.2 == (zmOwn M, x)) && (Nat.beq t 100 || Nat.beq t 104))
      | [k, m, 1] => znx M i pc 3 && (zlink (zmOwn M) x k && (Nat.beq (zmKind (zP k)) 1 && Nat.beq m (zmArgs (zP k))))
      | [] => true
      | _ => false)) = true := hck
    obtain ⟨h1, h2⟩ := zand hck9
    obtain rfl : len = 3 := Nat.eq_of_beq_eq_true h1
    split at h2
    · rename_i heq; cases heq
    · rename_i heq
      cases heq
      obtain ⟨h3, h4⟩ := zand h2
      obtain ⟨h5, h6⟩ := zand h4
      have h7 : zmKind (zP k) = 1 := Nat.eq_of_beq_eq_true (zand h6).1
      obtain ⟨hok, hlink⟩ := zlink_spec h5
      obtain ⟨b, argsL, kb, rfl, hbA, hcl, hal9⟩ := hrecv (by omega)
      rcases hlink with hlink | ⟨-, -, hno⟩
      · have hsel := hok.2.2
        rw [h7] at hsel
        obtain ⟨cellB, hcB, hoB, hclB⟩ : ∃ cell : Cell, H[b]? = some cell ∧ cell.vm.isStatics = false ∧ s.vm.findClass (zmName (zP k)).cls = some cell.cls := by
          rw [← hcn]
          rcases zrc_at h7 with h13 | h15
          · have hcl9 : zc S kb = zmOwn (zP k) := hcl.trans hrco
            obtain ⟨hb75, ev, hev, hE⟩ := hW.cell hKc hbA (by omega) (by omega) (by omega) (by omega)
            obtain ⟨fs, rfl, -, -⟩ := hE.obj (by omega)
            rw [hcl9] at hev
            exact va_recv hK hP (zcl_at h13) hev
          · have hcl9 : zc S kb = 15 := hcl.trans (hrco.trans h15)
            obtain ⟨hb75, rfl, hc15, -⟩ := hW.const hbA (by omega)
            obtain ⟨cell, g1, g2, g3, g4⟩ := (hKc.2.2.2.1 kb hb75 (hc15.trans hcl9)).1
            refine ⟨cell, by rw [hSS.2.1 _ (Array.getElem?_eq_some_iff.mp g1).1 g4]; exact g1, g2, ?_⟩
            rw [h15]
            exact g3
        have hdl9 : ∀ sig, parseMethodDescriptor (zmName (zP k)).desc = some sig → argsL.length = sig.parameters.length := fun sig hsig => by
          have := hdl sig hsig
          rw [h7] at this
          have this : sig.parameters.length = zmArgs (zP k) - 1 := this
          omega
        refine fin (Value.ref b :: argsL).toArray h3 ?_
        cases hT9 : zmTab (zP k) with
        | nil =>
          have hcw : zcodeW (zP k) = .code (zmName (zP k)) (zmCode (zP k)) (zmMaxL (zP k)) (zmRet (zP k)) := by
            unfold zcodeW
            rw [hT9]
          exact vx_callV X hx (C := (zmName (zP k)).cls) (bytes := zmCode (zP k)) (maxL := zmMaxL (zP k)) (ret := zmRet (zP k)) hown (hts _ hlink) (hts _ hsel.1) (hts _ hsel.2) (hts _ (by rw [← hcw]; exact hok.1)) hy (hback hok) (by rw [hT]; exact hcB) hoB hclB rfl hsize (argsL := argsL) (rest := rest) hdl9 (by show (Value.ref b :: argsL).reverse ++ rest = _; rw [List.reverse_cons, List.append_assoc]; rfl) hW80 (by rw [hb9]; exact hd) hpre
        | cons t ts =>
          have hcw : zcodeW (zP k) = .codeWith (zmName (zP k)) (zmCode (zP k)) (zmMaxL (zP k)) (zmRet (zP k)) (t :: ts) := by
            unfold zcodeW
            rw [hT9]
          exact vx_callVX X hx (C := (zmName (zP k)).cls) (bytes := zmCode (zP k)) (maxL := zmMaxL (zP k)) (ret := zmRet (zP k)) (hh := t :: ts) hown (hts _ hlink) (hts _ hsel.1) (hts _ hsel.2) (hts _ (by rw [← hcw]; exact hok.1)) hy (hback hok) (by rw [hT]; exact hcB) hoB hclB rfl hsize (argsL := argsL) (rest := rest) hdl9 (by show (Value.ref b :: argsL).reverse ++ rest = _; rw [List.reverse_cons, List.append_assoc]; rfl) hW80 (by rw [hb9]; exact hd) hpre
      · exact absurd h7 hno
    · rename_i heq; cases heq
    · cases h2
  | invokestatic x =>
    have hck9 : (Nat.beq len 3 && (match (generalizing := false) ([k, mm, kd] : List Nat) with
      | [201] => znx M i pc 3 && zP_max.any (fun q => q.2 == (zmOwn M, x))
      | [202] => znx M i pc 3 && zP_min.any (fun q => q.2 == (zmOwn M, x))
      | [203] => znx M i pc 3 && zP_minL.any (fun q => q.2 == (zmOwn M, x))
      | [t] => znx M i pc 3 && (zP_copy.any (fun q => q.2 == (zmOwn M, x)) && (Nat.beq t 100 || Nat.beq t 104))
      | [k, m, 0] => znx M i pc 3 && (zlink (zmOwn M) x k && (Nat.beq (zmKind (zP k)) 0 && Nat.beq m (zmArgs (zP k))))
      | [] => true
      | _ => false)) = true := hck
    obtain ⟨h1, h2⟩ := zand hck9
    obtain rfl : len = 3 := Nat.eq_of_beq_eq_true h1
    split at h2
    · rename_i heq; cases heq
    · rename_i heq; cases heq
    · rename_i heq; cases heq
    · rename_i heq; cases heq
    · rename_i heq
      cases heq
      obtain ⟨h3, h4⟩ := zand h2
      obtain ⟨h5, h6⟩ := zand h4
      have h7 : zmKind (zP k) = 0 := Nat.eq_of_beq_eq_true (zand h6).1
      obtain ⟨hok, hlink⟩ := zlink_spec h5
      have hsel := hok.2.2
      rw [h7] at hsel
      have hdl9 : ∀ sig, parseMethodDescriptor (zmName (zP k)).desc = some sig → avR.length = sig.parameters.length := fun sig hsig => by
        have := hdl sig hsig
        rw [h7] at this
        have this : sig.parameters.length = zmArgs (zP k) - 0 := this
        omega
      refine fin avR.toArray h3 ?_
      rcases hlink with hlink | ⟨hnl, hT9, -⟩
      · cases hT9 : zmTab (zP k) with
        | nil =>
          have hcw : zcodeW (zP k) = .code (zmName (zP k)) (zmCode (zP k)) (zmMaxL (zP k)) (zmRet (zP k)) := by
            unfold zcodeW
            rw [hT9]
          exact vx_callS X hx (bytes := zmCode (zP k)) (maxL := zmMaxL (zP k)) (ret := zmRet (zP k)) hown (hts _ hlink) (hts _ hsel) (hts _ hok.2.1) (hts _ (by rw [← hcw]; exact hok.1)) hy (hback hok) rfl hsize (argsL := avR) (rest := rest) hdl9 rfl hW80 (by rw [hb9]; exact hd) hpre
        | cons t ts =>
          have hcw : zcodeW (zP k) = .codeWith (zmName (zP k)) (zmCode (zP k)) (zmMaxL (zP k)) (zmRet (zP k)) (t :: ts) := by
            unfold zcodeW
            rw [hT9]
          exact vx_callSX X hx (bytes := zmCode (zP k)) (maxL := zmMaxL (zP k)) (ret := zmRet (zP k)) (hh := t :: ts) hown (hts _ hlink) (hts _ hsel) (hts _ hok.2.1) (hts _ (by rw [← hcw]; exact hok.1)) hy (hback hok) rfl hsize (argsL := avR) (rest := rest) hdl9 rfl hW80 (by rw [hb9]; exact hd) hpre
      · have hcw : zcodeW (zP k) = .code (zmName (zP k)) (zmCode (zP k)) (zmMaxL (zP k)) (zmRet (zP k)) := by
          unfold zcodeW
          rw [hT9]
        exact zx_callSN X hx (bytes := zmCode (zP k)) (maxL := zmMaxL (zP k)) (ret := zmRet (zP k)) hown (znl_use (hKw.2.1 _ hnl)) (hts _ hsel) (hts _ hok.2.1) (hts _ (by rw [← hcw]; exact hok.1)) hy (hback hok) rfl hsize (argsL := avR) (rest := rest) hdl9 rfl hW80 (by rw [hb9]; exact hd) hpre
    · rename_i heq; cases heq
    · cases h2
  | invokespecial x =>
    have hck9 : (Nat.beq len 3 && (match (generalizing := false) ([k, mm, kd] : List Nat) with
      | [0] => znx M i pc 3 && zP_objinit.any (fun q => q.2 == (zmOwn M, x))
      | [k, m, 2] => znx M i pc 3 && (zlink (zmOwn M) x k && (Nat.beq (zmKind (zP k)) 2 && Nat.beq m (zmArgs (zP k))))
      | [] => true
      | _ => false)) = true := hck
    obtain ⟨h1, h2⟩ := zand hck9
    obtain rfl : len = 3 := Nat.eq_of_beq_eq_true h1
    split at h2
    · rename_i heq; cases heq
    · rename_i heq
      cases heq
      obtain ⟨h3, h4⟩ := zand h2
      obtain ⟨h5, h6⟩ := zand h4
      have h7 : zmKind (zP k) = 2 := Nat.eq_of_beq_eq_true (zand h6).1
      obtain ⟨hok, hlink⟩ := zlink_spec h5
      obtain ⟨b, argsL, kb, rfl, hbA, hcl, hal9⟩ := hrecv (by omega)
      have hsel := hok.2.2
      rw [h7] at hsel
      obtain ⟨hi1, hi2, hT9⟩ := hk2 h7
      have hcw : zcodeW (zP k) = .code (zmName (zP k)) (zmCode (zP k)) (zmMaxL (zP k)) none := by
        unfold zcodeW
        rw [hT9, hi2]
      have hdl9 : ∀ sig, parseMethodDescriptor (zmName (zP k)).desc = some sig → argsL.length = sig.parameters.length := fun sig hsig => by
        have := hdl sig hsig
        rw [h7] at this
        have this : sig.parameters.length = zmArgs (zP k) - 1 := this
        omega
      refine fin (Value.ref b :: argsL).toArray h3 ?_
      rcases hlink with hlink | ⟨hnl, -, -⟩
      · exact zx_callI X hx (bytes := zmCode (zP k)) (maxL := zmMaxL (zP k)) hown hi1 (hts _ hlink) (hts _ hsel) (hts _ (by rw [← hcw]; exact hok.1)) hy (hback hok) rfl hsize (argsL := argsL) (rest := rest) hdl9 (by show (Value.ref b :: argsL).reverse ++ rest = _; rw [List.reverse_cons, List.append_assoc]; rfl) hW80 (by rw [hb9]; exact hd) hpre
      · exact zx_callIN X hx (bytes := zmCode (zP k)) (maxL := zmMaxL (zP k)) hown hi1 (znl_use (hKw.2.1 _ hnl)) (hts _ hsel) (hts _ (by rw [← hcw]; exact hok.1)) hy (hback hok) rfl hsize (argsL := argsL) (rest := rest) hdl9 (by show (Value.ref b :: argsL).reverse ++ rest = _; rw [List.reverse_cons, List.append_assoc]; rfl) hW80 (by rw [hb9]; exact hd) hpre
    · rename_i heq; cases heq
    · cases h2
  | _ => cases hk
end ZCall
