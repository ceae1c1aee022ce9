/-! System.arraycopy and clone -/
/-- the kit's row, with a static array of ints as the source -/
theorem zr_copyt {p : Program} {l : Launch} {e : Env} {R : Room} {s : State} {m : MethodId} {args : Array Value} {below : List Frame} {meth : Method} {c : Code} {H : Heap} {locs : List Loc} {cells slots : Nat} {Q : State → Prop} {cc : ByteArray} {pc : Nat} {ls : Array Slot} {rest : List Value} {D : va_G} {cl : List vw_C} {A : Nat → Prop} {a : Nat} {tys : List (ClassId × FieldType)} {ws : va_W}
    (hexec : p.tables.exec = Jvm.exec) (hb : c.code = cc) (hml : c.maxLocals = ls.size) {own : String} {index : Nat} (hown : s.vm.findClass own = some m.cls) (hlink : (Cond.methodLink own index arraycopyName).before args s = true) (hnat : (Cond.native arraycopyName).before args s = true) (hstat : (Cond.static arraycopyName).before args s = true) (hini : (Cond.initialized "java/lang/System").before args s = true)
    (hK : va_K D cl tys s) (hP : va_P D cl ws H) (hD : va_D A ws) (hS : va_S A s.heap H locs) {b0 n0 : Nat} {f : Nat → Int32} (hX : va_T .int b0 n0 (fun j => .int (f j)) A s s.heap) (q1 t1 : Nat) {c1 : ClassId} {n1 : Nat} {g : Nat → Int32} (ha1 : ws[q1]? = some (a, .inl (c1, n1, .inl g))) (ht1 : tys[t1]? = some (c1, .int))
    {sp dp n : Int32} (h1 : ¬ sp < 0) (h2 : ¬ dp < 0) (h3 : ¬ n < 0) (h4 : sp.toNatClampNeg + n.toNatClampNeg ≤ n0) (h5 : dp.toNatClampNeg + n.toNatClampNeg ≤ n1)
    (hframes : 1 ≤ R.frames) (hlocals : (rest.map fun v => v.category).sum + (nativeFrameWords "java/lang/System" "arraycopy" 5 + 11) ≤ R.locals) (hdg : decode cc pc = .ok (.invokestatic index, 3))
    (kk : ∀ (H1 : Heap) (locs1 : List Loc), va_P D cl (ws.set q1 (a, .inl (c1, n1, .inl (va_cpy f g sp.toNatClampNeg dp.toNatClampNeg n.toNatClampNeg)))) H1 → va_D A (ws.set q1 (a, .inl (c1, n1, .inl (va_cpy f g sp.toNatClampNeg dp.toNatClampNeg n.toNatClampNeg)))) → va_S A s.heap H1 locs1 → W p l e R s m args below meth c H1 locs1 cells slots Q (F0 m (pc + 3) ls rest)) : W p l e R s m args below meth c H locs cells slots Q (F0 m pc ls (.int n :: .int dp :: .ref a :: .int sp :: .ref b0 :: rest)) := by
  have nn : ∀ z : Int32, ¬ z < 0 → z.toInt = (z.toNatClampNeg : Int) := by
    intro z hz
    have hz0 : (0 : Int) ≤ z.toInt := by
      have := Int32.not_lt.mp hz
      simpa using Int32.le_iff_toInt_le.mp this
    show z.toInt = ((z.toInt.toNat : Nat) : Int)
    omega
  intro T hT X
  obtain ⟨scr, hs1, hs2, hs3, hs4, -, hs5, hs7⟩ := hX
  have hc0 : H[b0]? = some scr := by rw [hS.2.1 b0 (Array.getElem?_eq_some_iff.mp hs1).1 hs7]; exact hs1
  have hc1 : H[a]? = some (vp_cell c1 (n1, .inl g)) := hP q1 _ ha1
  obtain ⟨hs6, k0, hk0, cm0, hkk0⟩ := hs2
  obtain ⟨-, k1, hk1, cm1, hkk1⟩ := (hK.2 t1 _ ht1).1 n1 (fun j => .int (g j))
  obtain ⟨vm', X', step⟩ := X.arraycopy hexec hown hlink hnat hstat hini (src := b0) (dst := a) (cs := scr) (cd := vp_cell c1 (n1, .inl g)) (srcPos := sp) (destPos := dp) (n := n) (by rw [hT]; exact hc0) (by rw [hT]; exact hc1)
    hs6 (fun _ h => by cases h) hs3 (fun h => by cases h) hk0 hk1 hkk0 hkk1 (by simp [refKind]) h1 h2 h3
    (by rw [nn sp h1, nn n h3]; omega)
    (by rw [nn dp h2, nn n h3]; show ¬ _ > ((arrV c1 n1 (fun j => .int (g j))).slots.size : Int); rw [arrV_size]; omega)
    (fun vm1 _ i hi => by
      have e : scr.slots.getD (sp.toNatClampNeg + i) .null = .int (f (sp.toNatClampNeg + i)) := by
        rw [Array.getD_eq_getD_getElem?, hs5 _ (by omega)]
        rfl
      refine ⟨?_, ?_⟩
      · rw [e]
        exact rfl
      · rw [e]
        exact trivial)
    (g := F0 m pc ls (.int n :: .int dp :: .ref a :: .int sp :: .ref b0 :: rest)) rfl (by rw [hml]) (rest := rest) rfl (by rw [hb]; exact hdg) hframes (by show 2 * 0 + _ + _ ≤ _; omega)
  have e1 : copied scr (vp_cell c1 (n1, .inl g)) sp dp n = vp_cell c1 (n1, .inl (va_cpy f g sp.toNatClampNeg dp.toNatClampNeg n.toNatClampNeg)) := va_copiedX (fun z => .int z) scr c1 f g hs5 h4
  rw [e1] at X' step
  have hl : a < H.size := (Array.getElem?_eq_some_iff.mp hc1).1
  have hheap : ((T.setVm vm').setCell a (vp_cell c1 (n1, .inl (va_cpy f g sp.toNatClampNeg dp.toNatClampNeg n.toNatClampNeg)))).heap = H.setIfInBounds a (vp_cell c1 (n1, .inl (va_cpy f g sp.toNatClampNeg dp.toNatClampNeg n.toNatClampNeg))) := by rw [← hT]; rfl
  have oq : ∀ q : Nat, q ≠ a → (H.setIfInBounds a (vp_cell c1 (n1, .inl (va_cpy f g sp.toNatClampNeg dp.toNatClampNeg n.toNatClampNeg))))[q]? = H[q]? := fun q hq => by simp [Array.getElem?_setIfInBounds, Ne.symm hq]
  obtain ⟨t, a1, b1⟩ := kk _ _ (hP.set hD ha1 (show (H.setIfInBounds a _)[a]? = some _ by simp [Array.getElem?_setIfInBounds, hl]) oq) (hD.set ha1) ⟨by simp; exact hS.1, fun q g1 g2 => by
      rw [oq q (fun e => g2 (by rw [e]; exact hD.2 q1 _ ha1))]
      exact hS.2.1 q g1 g2, fun q hq => by
      rcases List.mem_append.mp hq with h | h
      · exact hS.2.2 q h
      · obtain ⟨z, -, hz⟩ := List.mem_map.mp h
        rw [← hz]
        exact hD.2 q1 _ ha1⟩ _ hheap X'
  exact ⟨t, step t a1, b1⟩
/-- the kit's row of clone, for a static array of ints -/
theorem zr_clonet {p : Program} {l : Launch} {e : Env} {R : Room} {s : State} {m : MethodId} {args : Array Value} {below : List Frame} {meth : Method} {c : Code} {H : Heap} {locs : List Loc} {cells slots : Nat} {Q : State → Prop} {cc : ByteArray} {pc : Nat} {ls : Array Slot} {rest : List Value} {D : va_G} {cl : List vw_C} {A : Nat → Prop} {a : Nat} {ws : va_W}
    (hexec : p.tables.exec = Jvm.exec) (hb : c.code = cc) (hml : c.maxLocals = ls.size) {own : String} {index : Nat} (hown : s.vm.findClass own = some m.cls)
    (hlink : (Cond.methodLink own index ⟨"[I", "clone", "()Ljava/lang/Object;"⟩).before args s = true) (hsame : (Cond.sameMethod "[I" "java/lang/Object" "clone" "()Ljava/lang/Object;").before args s = true)
    (hnat : (Cond.native ⟨"java/lang/Object", "clone", "()Ljava/lang/Object;"⟩).before args s = true) (hinst : (Cond.instanceMethod ⟨"java/lang/Object", "clone", "()Ljava/lang/Object;"⟩).before args s = true)
    (hsel : (Cond.selects "[I" ⟨"[I", "clone", "()Ljava/lang/Object;"⟩ ⟨"java/lang/Object", "clone", "()Ljava/lang/Object;"⟩).before args s = true) (hcl : va_Nw (.castable "[I" "java/lang/Cloneable") s)
    (hP : va_P D cl ws H) (hD : va_D A ws) (hS : va_S A s.heap H locs) (hA : ∀ q, s.heap.size ≤ q → A q) {n : Nat} {f : Nat → Int32} (hX : va_T .int a n (fun j => .int (f j)) A s s.heap) (hC : ∃ cell : Cell, s.heap[a]? = some cell ∧ s.vm.findClass "[I" = some cell.cls ∧ cell.slots.size = n ∧ ¬ A a)
    (hframes : 1 ≤ R.frames) (hlocals : (rest.map fun v => v.category).sum + 14 ≤ R.locals) (hcells : cells + 1 ≤ R.cells) (hslots : slots + n ≤ R.slots) (hdg : decode cc pc = .ok (.invokevirtual index, 3))
    (kk : ∀ (q : Nat) (cA : ClassId) (H1 : Heap), s.vm.findClass "[I" = some cA → va_P D cl (ws ++ [(q, .inl (cA, n, .inl f))]) H1 → va_D A (ws ++ [(q, .inl (cA, n, .inl f))]) → va_S A s.heap H1 locs →
      W p l e R s m args below meth c H1 locs (cells + 1) (slots + n) Q (F0 m (pc + 3) ls (.ref q :: rest))) : W p l e R s m args below meth c H locs cells slots Q (F0 m pc ls (.ref a :: rest)) := by
  obtain ⟨scr, hs1, hs2, hs3, hs4, -, hs5, hs7⟩ := hX
  obtain ⟨cell, hc1, hc2, hc3, -⟩ := hC
  cases Option.some.inj (hs1.symm.trans hc1)
  obtain ⟨hs6, kS, hkS, compS, hkindS⟩ := hs2
  have hcellE : ({ cls := scr.cls, slots := scr.slots } : Cell) = vp_cell scr.cls (n, .inl f) := by
    have hsl : scr.slots = (vp_cell scr.cls (n, .inl f)).slots := by
      apply Array.ext_getElem?
      intro i
      by_cases hi : i < n
      · rw [hs5 i hi]
        show _ = (arrV scr.cls n (fun j => .int (f j))).slots[i]?
        rw [arrV_read _ _ hi]
      · have e1 : (vp_cell scr.cls (n, .inl f)).slots.size = n := arrV_size _ _ _
        rw [Array.getElem?_eq_none (by omega), Array.getElem?_eq_none (by omega)]
    rw [hsl]
    rfl
  obtain ⟨c0, t0', f1, f2, f3⟩ := Cond.castable_spec (va_Nw.use (A := args) rfl hcl)
  cases Option.some.inj (hc2.symm.trans f1)
  intro T hT X
  have hcellT : T.heap[a]? = some scr := by rw [hT, hS.2.1 a (Array.getElem?_eq_some_iff.mp hs1).1 hs7]; exact hs1
  obtain ⟨-, kA, hkA, comp, hkind⟩ := State.isArrayOf_alike X.warmed.alike (⟨hs6, kS, hkS, compS, hkindS⟩ : s.isArrayOf scr .int)
  obtain ⟨vm', X', st⟩ := X.cloneArray hexec hown hlink hsame hnat hinst hsel (a := a) (cell := scr) hcellT hs6 hs3 hc2 f2 f3
    (fun i v hv => by
      have hk' : T.vm.classes[scr.cls]? = some kA := hkA
      have hi : i < n := by
        have := (Array.getElem?_eq_some_iff.mp hv).1
        omega
      rw [hs5 i hi] at hv
      cases hv
      have hv0 : scr.vm.isStatics = false := by
        cases hvm : scr.vm <;> first
          | rfl
          | exact absurd hvm (hs6 _)
      cases hvm : scr.vm <;> first
        | exact absurd hvm (hs6 _)
        | simp [State.fitsSlot, State.slotType?, hk', hkind, fits, hvm])
    (g := F0 m pc ls (.ref a :: rest)) rfl (by rw [hml]) rfl (by rw [hb]; exact hdg) hframes (by show 2 * 0 + _ + 14 ≤ _; omega) hcells (by rw [hc3]; exact hslots) (hloader := Vm.clonesLoader_of_array hkS hkindS)
  rw [hcellE, hc3] at X'
  generalize hH1 : H.push (vp_cell scr.cls (n, .inl f)) = H1
  have z1 : H1.size = H.size + 1 := by rw [← hH1, Array.size_push]
  have e1 : H1[H.size]? = some (vp_cell scr.cls (n, .inl f)) := by rw [← hH1, Array.getElem?_push_size]
  have o1 : ∀ q : Nat, q < H.size → H1[q]? = H[q]? := fun q hq => by rw [← hH1, Array.getElem?_push, if_neg (Nat.ne_of_lt hq)]
  have hk : ∀ (k : Nat) (y : Nat × va_E), ws[k]? = some y → H1[y.1]? = H[y.1]? := fun k y hy => o1 y.1 ((hP k y hy).lt)
  obtain ⟨t, b1, b2⟩ := kk H.size scr.cls H1 hc2 ((hP.kept hk).app (fun k y hy => by
      have hz : k < 1 := (List.getElem?_eq_some_iff.mp hy).1
      rw [show k = 0 by omega] at hy
      cases hy
      exact e1)) (hD.push hP rfl (hA _ hS.1)) ⟨Nat.le_trans hS.1 (by omega), fun x h1 h2 => (o1 x (Nat.lt_of_lt_of_le h1 hS.1)).trans (hS.2.1 x h1 h2), hS.2.2⟩ _ (by rw [← hH1, ← hT]; rfl) X'
  refine ⟨t, st t ?_, b2⟩
  rw [hcellE, hT]
  exact b1
section ZHeap3
variable {p : Program} {l : Launch} {e : Env} {R : Room} {s : State} {m : MethodId} {args : Array Value} {below : List Frame} {meth : Method} {c : Code} {Q : State → Prop} {M : ZMt} {cad : Nat → Nat} {tc : Nat → ClassId} {D : va_G} {S0 : ZSt} {A : Nat → Prop} {ws0 : va_W} {c0 z0 : Nat}
variable {i pc : Nat} {ls : ZLo} {st : List Value} {S : ZSt}
theorem zcopy_link {own x : Nat} (hw : zP_copy.any (fun q => q.2 == (own, x)) = true) : Cond.methodLink (zcn own) x arraycopyName ∈ zTB := by
  obtain ⟨⟨j, q⟩, hq, he⟩ := List.any_eq_true.mp hw
  have he : q = (own, x) := by simpa using he
  subst he
  exact zhas_in (List.all_eq_true.mp zP_copy_ok _ hq)
theorem zclone_link {own x : Nat} (hw : zP_clone.any (fun q => q.2 == (own, x)) = true) : Cond.methodLink (zcn own) x ⟨"[I", "clone", "()Ljava/lang/Object;"⟩ ∈ zTB := by
  obtain ⟨⟨j, q⟩, hq, he⟩ := List.any_eq_true.mp hw
  have he : q = (own, x) := by simpa using he
  subst he
  exact zhas_in (List.all_eq_true.mp zP_clone_ok _ hq)
theorem zs_copy {x a b : Nat} {sp dp n : Int32} (C : zCx p l R s m args meth c M cad S0 A) (hp : zpcOf M i = pc) (hd : decode (zmCode M) pc = .ok (.invokestatic x, 3)) (hn : zpcOf M (i + 1) = pc + 3) (hw : zP_copy.any (fun q => q.2 == (zmOwn M, x)) = true) (hst : st.length ≤ 40) (ha0 : zc S a = 100) (hb0 : zc S b = 100)
    (h1 : ¬ sp < 0) (h2 : ¬ dp < 0) (h3 : ¬ n < 0) (h4 : sp.toNatClampNeg + n.toNatClampNeg ≤ zn S a) (h5 : dp.toNatClampNeg + n.toNatClampNeg ≤ zn S b)
    (k : zGo p l e R s m args below meth c Q M cad tc D S0 A ws0 c0 z0 (i + 1) ls st (zwI S b (va_cpy (zI S a) (zI S b) sp.toNatClampNeg dp.toNatClampNeg n.toNatClampNeg))) : zGo p l e R s m args below meth c Q M cad tc D S0 A ws0 c0 z0 i ls (.int n :: .int dp :: .ref b :: .int sp :: .ref a :: st) S := by
  obtain ⟨hx, hb, hml, hown, hts, hlk, hrt, hin, htr, hA, hKc, hKw, htab, hRf, hRl⟩ := C
  intro ws H locs ar sr hW hL hl hS hc hz
  obtain ⟨V1, sr, rfl, h6, hS1⟩ := hS.cons
  clear hS
  cases h6
  obtain ⟨V2, sr, rfl, h7, hS2⟩ := hS1.cons
  clear hS1
  cases h7
  obtain ⟨V3, sr, rfl, ⟨qb, rfl, hqb⟩, hS3⟩ := hS2.cons
  clear hS2
  obtain ⟨V4, sr, rfl, h8, hS4⟩ := hS3.cons
  clear hS3
  cases h8
  obtain ⟨V5, sr, rfl, ⟨qa, rfl, hqa⟩, hS5⟩ := hS4.cons
  clear hS4
  have hW' := hW
  obtain ⟨hK, hP, hD, hSS, hR, hKn, hX⟩ := hW'
  obtain ⟨hb75, eb, heb, hEb⟩ := hW.cell hKc hqb (by omega) (by omega) (by omega) (by omega)
  rw [hEb.ints (by omega), hb0] at heb
  obtain ⟨ha75, ea, hea, hEa⟩ := hW.cell hKc hqa (by omega) (by omega) (by omega) (by omega)
  rw [hEa.ints (by omega), ha0] at hea
  have hrep : zRep cad tc (ws.set (b - 75) (qb, .inl (tc 100, zn S b, .inl (va_cpy (zI S a) (zI S b) sp.toNatClampNeg dp.toNatClampNeg n.toNatClampNeg)))) (zwI S b (va_cpy (zI S a) (zI S b) sp.toNatClampNeg dp.toNatClampNeg n.toNatClampNeg)) := by
    refine hR.put heb rfl (fun j hj => zwI_o (by omega)) ?_
    rw [show b - 75 + 75 = b by omega]
    exact ⟨by show tc 100 = tc (zc S b); rw [hb0], rfl, Or.inl hb0, (show zI (zwI S b (va_cpy (zI S a) (zI S b) sp.toNatClampNeg dp.toNatClampNeg n.toNatClampNeg)) b = _ from va_up_self _ _ _).symm⟩
  have hKn' : zKon (zwI S b (va_cpy (zI S a) (zI S b) sp.toNatClampNeg dp.toNatClampNeg n.toNatClampNeg)) S0 := hKn.put hb75 (fun j hj => zwI_o hj)
  have hcat := hS5.cats
  have hnf : nativeFrameWords "java/lang/System" "arraycopy" 5 = 7 := by decide +kernel
  rw [hp]
  refine va_copyi hx hb (by rw [hml, ← hl, hL.1]) hown (hts _ (zcopy_link hw)) (hts _ zx_anat) (hts _ zx_asta) (hts _ zx_aini) hK hP hD hSS (a - 75) (b - 75) 0 0 hea heb (ty := .int) rfl rfl rfl h1 h2 h3 h4 h5 (fun _ _ => rfl) (by omega) (by rw [hnf]; omega) hd (fun H1 locs1 g1 g2 g3 => ?_)
  have hx9 : zExt ws (ws.set (b - 75) (qb, .inl (tc 100, zn S b, .inl (va_cpy (zI S a) (zI S b) sp.toNatClampNeg dp.toNatClampNeg n.toNatClampNeg)))) := zExt.put heb
  have := k _ H1 locs1 ar sr ⟨hK, g1, g2, g3, hrep, hKn', hX.tr hx9⟩ (hL.ext hx9) hl (hS5.ext hx9) hc hz
  rw [hn] at this
  exact this
theorem zs_copyt {x a b : Nat} {sp dp n : Int32} (C : zCx p l R s m args meth c M cad S0 A) (hp : zpcOf M i = pc) (hd : decode (zmCode M) pc = .ok (.invokestatic x, 3)) (hn : zpcOf M (i + 1) = pc + 3) (hw : zP_copy.any (fun q => q.2 == (zmOwn M, x)) = true) (hst : st.length ≤ 40) (ha0 : zc S a = 104) (hb0 : zc S b = 100)
    (h1 : ¬ sp < 0) (h2 : ¬ dp < 0) (h3 : ¬ n < 0) (h4 : sp.toNatClampNeg + n.toNatClampNeg ≤ zn S a) (h5 : dp.toNatClampNeg + n.toNatClampNeg ≤ zn S b)
    (k : zGo p l e R s m args below meth c Q M cad tc D S0 A ws0 c0 z0 (i + 1) ls st (zwI S b (va_cpy (zI S a) (zI S b) sp.toNatClampNeg dp.toNatClampNeg n.toNatClampNeg))) : zGo p l e R s m args below meth c Q M cad tc D S0 A ws0 c0 z0 i ls (.int n :: .int dp :: .ref b :: .int sp :: .ref a :: st) S := by
  obtain ⟨hx, hb, hml, hown, hts, hlk, hrt, hin, htr, hA, hKc, hKw, htab, hRf, hRl⟩ := C
  intro ws H locs ar sr hW hL hl hS hc hz
  obtain ⟨V1, sr, rfl, h6, hS1⟩ := hS.cons
  clear hS
  cases h6
  obtain ⟨V2, sr, rfl, h7, hS2⟩ := hS1.cons
  clear hS1
  cases h7
  obtain ⟨V3, sr, rfl, ⟨qb, rfl, hqb⟩, hS3⟩ := hS2.cons
  clear hS2
  obtain ⟨V4, sr, rfl, h8, hS4⟩ := hS3.cons
  clear hS3
  cases h8
  obtain ⟨V5, sr, rfl, ⟨qa, rfl, hqa⟩, hS5⟩ := hS4.cons
  clear hS4
  have hW' := hW
  obtain ⟨hK, hP, hD, hSS, hR, hKn, hX⟩ := hW'
  obtain ⟨hb75, eb, heb, hEb⟩ := hW.cell hKc hqb (by omega) (by omega) (by omega) (by omega)
  rw [hEb.ints (by omega), hb0] at heb
  obtain ⟨ha75, rfl, e1, e2, e3, e4⟩ := hW.const hqa (by omega)
  have hT := hKc.2.1 a ha75 (by omega)
  rw [e2, e3] at hT
  have hrep : zRep cad tc (ws.set (b - 75) (qb, .inl (tc 100, zn S b, .inl (va_cpy (zI S a) (zI S b) sp.toNatClampNeg dp.toNatClampNeg n.toNatClampNeg)))) (zwI S b (va_cpy (zI S a) (zI S b) sp.toNatClampNeg dp.toNatClampNeg n.toNatClampNeg)) := by
    refine hR.put heb rfl (fun j hj => zwI_o (by omega)) ?_
    rw [show b - 75 + 75 = b by omega]
    exact ⟨by show tc 100 = tc (zc S b); rw [hb0], rfl, Or.inl hb0, (show zI (zwI S b (va_cpy (zI S a) (zI S b) sp.toNatClampNeg dp.toNatClampNeg n.toNatClampNeg)) b = _ from va_up_self _ _ _).symm⟩
  have hKn' : zKon (zwI S b (va_cpy (zI S a) (zI S b) sp.toNatClampNeg dp.toNatClampNeg n.toNatClampNeg)) S0 := hKn.put hb75 (fun j hj => zwI_o hj)
  have hcat := hS5.cats
  have hnf : nativeFrameWords "java/lang/System" "arraycopy" 5 = 7 := by decide +kernel
  rw [hp]
  refine zr_copyt hx hb (by rw [hml, ← hl, hL.1]) hown (hts _ (zcopy_link hw)) (hts _ zx_anat) (hts _ zx_asta) (hts _ zx_aini) hK hP hD hSS hT (b - 75) 0 heb rfl h1 h2 h3 h4 h5 (by omega) (by rw [hnf]; omega) hd (fun H1 locs1 g1 g2 g3 => ?_)
  have hx9 : zExt ws (ws.set (b - 75) (qb, .inl (tc 100, zn S b, .inl (va_cpy (zI S a) (zI S b) sp.toNatClampNeg dp.toNatClampNeg n.toNatClampNeg)))) := zExt.put heb
  have := k _ H1 locs1 ar sr ⟨hK, g1, g2, g3, hrep, hKn', hX.tr hx9⟩ (hL.ext hx9) hl (hS5.ext hx9) hc hz
  rw [hn] at this
  exact this
theorem zs_clone {x a : Nat} (C : zCx p l R s m args meth c M cad S0 A) (hp : zpcOf M i = pc) (hd : decode (zmCode M) pc = .ok (.invokevirtual x, 3)) (hn : zpcOf M (i + 1) = pc + 3) (hw : zP_clone.any (fun q => q.2 == (zmOwn M, x)) = true) (hst : st.length ≤ 40) (ha0 : zc S a = 100) (hcell : zu S + 1 - c0 ≤ R.cells) (hslot : zz S + zn S a - z0 ≤ R.slots)
    (k : zGo p l e R s m args below meth c Q M cad tc D S0 A ws0 c0 z0 (i + 1) ls (.ref (zx S) :: st) (zNew S 100 (zn S a) (zn S a) (zI S a))) : zGo p l e R s m args below meth c Q M cad tc D S0 A ws0 c0 z0 i ls (.ref a :: st) S := by
  obtain ⟨hx, hb, hml, hown, hts, hlk, hrt, hin, htr, hA, hKc, hKw, htab, hRf, hRl⟩ := C
  intro ws H locs ar sr hW hL hl hS hc hz
  obtain ⟨V, sr, rfl, ⟨qa, rfl, hqa⟩, hS1⟩ := hS.cons
  clear hS
  have hW' := hW
  obtain ⟨hK, hP, hD, hSS, hR, hKn, hX⟩ := hW'
  obtain ⟨ha75, ea, hea, hEa⟩ := hW.cell hKc hqa (by omega) (by omega) (by omega) (by omega)
  rw [hEa.ints (by omega), ha0] at hea
  have hcat := hS1.cats
  rw [hp]
  refine va_clone (x := (zn S a, .inl (zI S a))) hx hb (by rw [hml, ← hl, hL.1]) hown (hts _ (zclone_link hw)) (hts _ zx_same) (hts _ zx_cnat) (hts _ zx_cins) (hts _ zx_csel) hKw.2.2.2.2.2.1 hK hP hD hSS hA (a - 75) 0 hea (ty := .int) rfl ((hK.2 0 (tc 100, .int) rfl).2)
    (fun i9 v9 hv9 => by
      have hi9 : i9 < zn S a := by
        have := (Array.getElem?_eq_some_iff.mp hv9).1
        have e1 : (vp_cell (tc 100) (zn S a, .inl (zI S a))).slots.size = zn S a := arrV_size _ _ _
        omega
      have e2 : (vp_cell (tc 100) (zn S a, .inl (zI S a))).slots[i9]? = some (.int (zI S a i9)) := arrV_read _ _ hi9
      cases Option.some.inj (hv9.symm.trans e2)
      rfl) (by omega) (by omega) (by omega) (by show _ + zn S a ≤ _; omega) hd (fun q H1 g0 g1 g2 g3 => ?_)
  obtain ⟨cA, hcA⟩ : ∃ cA, cA = tc 100 := ⟨_, rfl⟩
  rw [← hcA] at g1 g2
  have hx9 : zExt ws (ws ++ [(q, .inl (cA, zn S a, .inl (zI S a)))]) := zExt.push _
  have hnew : zA cad (ws ++ [(q, .inl (cA, zn S a, .inl (zI S a)))]) (zx S) q := Or.inr ⟨by rw [hR.1]; omega, _, by rw [hR.1, Nat.add_sub_cancel, List.getElem?_append_right (Nat.le_refl _), Nat.sub_self]; rfl⟩
  have hrep : zRep cad tc (ws ++ [(q, .inl (cA, zn S a, .inl (zI S a)))]) (zNew S 100 (zn S a) (zn S a) (zI S a)) := by
    have h9 : zc (zNew S 100 (zn S a) (zn S a) (zI S a)) (zx S) = 100 := va_up_self _ _ _
    exact hR.push rfl (fun j hj => zNew_o hj) ⟨by rw [hcA, h9], (va_up_self _ _ _).symm, Or.inl h9, (va_up_self _ _ _).symm⟩
  have hKn' : zKon (zNew S 100 (zn S a) (zn S a) (zI S a)) S0 := hKn.put (b := zx S) (by rw [hR.1]; omega) (fun j hj => zNew_o hj)
  have := k _ H1 locs ar (.ref q :: sr) ⟨hK, g1, g2, g3, hrep, hKn', hX.tr hx9⟩ (hL.ext hx9) hl ⟨⟨q, rfl, hnew⟩, hS1.ext hx9⟩ (by show c0 ≤ zu S + 1; omega) (by show z0 ≤ zz S + zn S a; omega)
  rw [hn] at this
  have e1 : zu S - c0 + 1 = zu (zNew S 100 (zn S a) (zn S a) (zI S a)) - c0 := by show _ = zu S + 1 - c0; omega
  have e2 : zz S - z0 + zn S a = zz (zNew S 100 (zn S a) (zn S a) (zI S a)) - z0 := by show _ = zz S + zn S a - z0; omega
  rw [← e1, ← e2] at this
  exact this
theorem zs_clonet {x a : Nat} (C : zCx p l R s m args meth c M cad S0 A) (hp : zpcOf M i = pc) (hd : decode (zmCode M) pc = .ok (.invokevirtual x, 3)) (hn : zpcOf M (i + 1) = pc + 3) (hw : zP_clone.any (fun q => q.2 == (zmOwn M, x)) = true) (hst : st.length ≤ 40) (ha0 : zc S a = 104) (hcell : zu S + 1 - c0 ≤ R.cells) (hslot : zz S + zn S a - z0 ≤ R.slots)
    (k : zGo p l e R s m args below meth c Q M cad tc D S0 A ws0 c0 z0 (i + 1) ls (.ref (zx S) :: st) (zNew S 100 (zn S a) (zn S a) (zI S a))) : zGo p l e R s m args below meth c Q M cad tc D S0 A ws0 c0 z0 i ls (.ref a :: st) S := by
  obtain ⟨hx, hb, hml, hown, hts, hlk, hrt, hin, htr, hA, hKc, hKw, htab, hRf, hRl⟩ := C
  intro ws H locs ar sr hW hL hl hS hc hz
  obtain ⟨V, sr, rfl, ⟨qa, rfl, hqa⟩, hS1⟩ := hS.cons
  clear hS
  have hW' := hW
  obtain ⟨hK, hP, hD, hSS, hR, hKn, hX⟩ := hW'
  obtain ⟨ha75, rfl, e1, e2, e3, e4⟩ := hW.const hqa (by omega)
  have hT := hKc.2.1 a ha75 (by omega)
  have hC := hKc.2.2.2.2.2.1 a ha75 (by omega)
  rw [e2, e3] at hT
  rw [e2] at hC
  have hcat := hS1.cats
  rw [hp]
  refine zr_clonet hx hb (by rw [hml, ← hl, hL.1]) hown (hts _ (zclone_link hw)) (hts _ zx_same) (hts _ zx_cnat) (hts _ zx_cins) (hts _ zx_csel) hKw.2.2.2.2.2.1 hP hD hSS hA hT hC (by omega) (by omega) (by omega) (by omega) hd (fun q cA H1 g0 g1 g2 g3 => ?_)
  have hcA : cA = tc 100 := Option.some.inj (g0.symm.trans ((hK.2 0 (tc 100, .int) rfl).2))
  have hx9 : zExt ws (ws ++ [(q, .inl (cA, zn S a, .inl (zI S a)))]) := zExt.push _
  have hnew : zA cad (ws ++ [(q, .inl (cA, zn S a, .inl (zI S a)))]) (zx S) q := Or.inr ⟨by rw [hR.1]; omega, _, by rw [hR.1, Nat.add_sub_cancel, List.getElem?_append_right (Nat.le_refl _), Nat.sub_self]; rfl⟩
  have hrep : zRep cad tc (ws ++ [(q, .inl (cA, zn S a, .inl (zI S a)))]) (zNew S 100 (zn S a) (zn S a) (zI S a)) := by
    have h9 : zc (zNew S 100 (zn S a) (zn S a) (zI S a)) (zx S) = 100 := va_up_self _ _ _
    exact hR.push rfl (fun j hj => zNew_o hj) ⟨by rw [hcA, h9], (va_up_self _ _ _).symm, Or.inl h9, (va_up_self _ _ _).symm⟩
  have hKn' : zKon (zNew S 100 (zn S a) (zn S a) (zI S a)) S0 := hKn.put (b := zx S) (by rw [hR.1]; omega) (fun j hj => zNew_o hj)
  have := k _ H1 locs ar (.ref q :: sr) ⟨hK, g1, g2, g3, hrep, hKn', hX.tr hx9⟩ (hL.ext hx9) hl ⟨⟨q, rfl, hnew⟩, hS1.ext hx9⟩ (by show c0 ≤ zu S + 1; omega) (by show z0 ≤ zz S + zn S a; omega)
  rw [hn] at this
  have e1 : zu S - c0 + 1 = zu (zNew S 100 (zn S a) (zn S a) (zI S a)) - c0 := by show _ = zu S + 1 - c0; omega
  have e2 : zz S - z0 + zn S a = zz (zNew S 100 (zn S a) (zn S a) (zI S a)) - z0 := by show _ = zz S + zn S a - z0; omega
  rw [← e1, ← e2] at this
  exact this
end ZHeap3
