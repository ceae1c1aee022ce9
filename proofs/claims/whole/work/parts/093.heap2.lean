/-! Cells made, references in arrays, statics, texts, and the three natives -/
section ZHeap2
variable {p : Program} {l : Launch} {e : Env} {R : Room} {s : State} {m : MethodId} {args : Array Value} {below : List Frame} {meth : Method} {c : Code} {Q : State → Prop} {M : ZMt} {cad : Nat → Nat} {tc : Nat → ClassId} {D : va_G} {S0 : ZSt} {A : Nat → Prop} {ws0 : va_W} {c0 z0 : Nat}
variable {i pc : Nat} {ls : ZLo} {st : List Value} {S : ZSt}
theorem zs_aald {a tg ti : Nat} {Cn : String} {j : Int32} (C : zCx p l R s m args meth c M cad S0 A) (hp : zpcOf M i = pc) (hd : decode (zmCode M) pc = .ok (.aaload, 1)) (hn : zpcOf M (i + 1) = pc + 1) (htg : tg = 113 ∨ tg = 115 ∨ tg = 119) (hti : (ztys tc)[ti]? = some (tc tg, .object Cn)) (ha0 : zc S a = tg) (hj : vp_in j (zn S a))
    (k : (zR S a j.toNatClampNeg = none → zGo p l e R s m args below meth c Q M cad tc D S0 A ws0 c0 z0 (i + 1) ls (.null :: st) S) ∧ ∀ q, zR S a j.toNatClampNeg = some q → zGo p l e R s m args below meth c Q M cad tc D S0 A ws0 c0 z0 (i + 1) ls (.ref q :: st) S) : zGo p l e R s m args below meth c Q M cad tc D S0 A ws0 c0 z0 i ls (.int j :: .ref a :: st) S := by
  obtain ⟨hx, hb, hml, hown, hts, hlk, hrt, hin, htr, hA, hKc, hKw, htab, hRf, hRl⟩ := C
  intro ws H locs ar sr hW hL hl hS hc hz
  obtain ⟨V0, sr, rfl, h8, hS0⟩ := hS.cons
  clear hS
  cases h8
  obtain ⟨V, sr, rfl, ⟨q, rfl, ha⟩, hS1⟩ := hS0.cons
  clear hS0
  have hW' := hW
  obtain ⟨hK, hP, hD, hSS, hR, hKn, hX⟩ := hW'
  obtain ⟨h75, e9, he, hE⟩ := hW.cell hKc ha (by omega) (by omega) (by omega) (by omega)
  obtain ⟨f, rfl, hf⟩ := hE.refs (by omega)
  rw [ha0] at he
  have hjn : j.toNatClampNeg < zn S a := by
    have := hj
    unfold vp_in at this
    omega
  have h7 := hf _ hjn
  rw [hp]
  refine va_aldq hx hb hK hP (a - 75) ti he hti hj hd ?_
  cases hr : zR S a j.toNatClampNeg with
  | none =>
    rw [hr] at h7
    cases hf9 : f j.toNatClampNeg with
    | none =>
      have := k.1 hr ws H locs ar (.null :: sr) hW hL hl ⟨rfl, hS1⟩ hc hz
      rwa [hn] at this
    | some y => rw [hf9] at h7; exact h7.elim
  | some b =>
    rw [hr] at h7
    cases hf9 : f j.toNatClampNeg with
    | none => rw [hf9] at h7; exact h7.elim
    | some y =>
      rw [hf9] at h7
      have := k.2 b hr ws H locs ar (.ref y :: sr) hW hL hl ⟨⟨y, rfl, h7⟩, hS1⟩ hc hz
      rwa [hn] at this
theorem zs_aast {a v tg ti ci : Nat} {j : Int32} (C : zCx p l R s m args meth c M cad S0 A) (hp : zpcOf M i = pc) (hd : decode (zmCode M) pc = .ok (.aastore, 1)) (hn : zpcOf M (i + 1) = pc + 1) (htg : tg = 113 ∨ tg = 115 ∨ tg = 119) (hti : (ztys tc)[ti]? = some (tc tg, .object (zcn ci))) (hci : ci < 13) (ha0 : zc S a = tg) (hv0 : zc S v = ci) (hj : vp_in j (zn S a))
    (k : zGo p l e R s m args below meth c Q M cad tc D S0 A ws0 c0 z0 (i + 1) ls st (zsR S a j.toNatClampNeg (some v))) : zGo p l e R s m args below meth c Q M cad tc D S0 A ws0 c0 z0 i ls (.ref v :: .int j :: .ref a :: st) S := by
  obtain ⟨hx, hb, hml, hown, hts, hlk, hrt, hin, htr, hA, hKc, hKw, htab, hRf, hRl⟩ := C
  intro ws H locs ar sr hW hL hl hS hc hz
  obtain ⟨V0, sr, rfl, ⟨v1, rfl, hv1⟩, hS0⟩ := hS.cons
  clear hS
  obtain ⟨V1, sr, rfl, h9, hS2⟩ := hS0.cons
  clear hS0
  cases h9
  obtain ⟨V, sr, rfl, ⟨q, rfl, ha⟩, hS1⟩ := hS2.cons
  clear hS2
  have hW' := hW
  obtain ⟨hK, hP, hD, hSS, hR, hKn, hX⟩ := hW'
  obtain ⟨h75, e9, he, hE⟩ := hW.cell hKc ha (by omega) (by omega) (by omega) (by omega)
  obtain ⟨f, rfl, hf⟩ := hE.refs (by omega)
  rw [ha0] at he
  obtain ⟨w75, e8, we, wE⟩ := hW.cell hKc hv1 (by omega) (by omega) (by omega) (by omega)
  obtain ⟨fs, rfl, hfl, hff⟩ := wE.obj (by omega)
  rw [hv0] at we
  have hself : zR (zsR S a j.toNatClampNeg (some v)) a = va_up (zR S a) j.toNatClampNeg (some v) := va_up_self _ _ _
  have hrep : zRep cad tc (ws.set (a - 75) (q, .inl (tc tg, zn S a, .inr (.inr (.inr (.inr (va_up f j.toNatClampNeg (some v1)))))))) (zsR S a j.toNatClampNeg (some v)) := by
    refine hR.put he rfl (fun j hj => zwR_o (by omega)) ?_
    rw [show a - 75 + 75 = a by omega]
    refine ⟨by show tc tg = tc (zc S a); rw [ha0], rfl, by show zc S a = 113 ∨ zc S a = 115 ∨ zc S a = 119; omega, fun i9 hi9 => ?_⟩
    rw [hself]
    by_cases hj9 : i9 = j.toNatClampNeg
    · subst hj9
      rw [va_up_self, va_up_self]
      exact hv1.ext (zExt.put he)
    · rw [va_up_ne _ _ hj9, va_up_ne _ _ hj9]
      exact (hf i9 hi9).ext (zExt.put he)
  have hKn' : zKon (zsR S a j.toNatClampNeg (some v)) S0 := hKn.put h75 (fun j hj => zwR_o hj)
  rw [hp]
  refine va_astq hx hb hK hP hD hSS (a - 75) ti (v - 75) ci he (r := (zcn ci, zT ci, zfn ci)) hti we (zcl_at hci) hj hd (fun H1 locs1 g1 g2 g3 => ?_)
  have hx9 : zExt ws (ws.set (a - 75) (q, .inl (tc tg, zn S a, .inr (.inr (.inr (.inr (va_up f j.toNatClampNeg (some v1)))))))) := zExt.put he
  have := k _ H1 locs1 ar sr ⟨hK, g1, g2, g3, hrep, hKn', hX.tr hx9⟩ (hL.ext hx9) hl (hS1.ext hx9) hc hz
  rw [hn] at this
  exact this
theorem zdflt {ty : FieldType} {cad : Nat → Nat} {ws : va_W} {S : ZSt} {k j : Nat} (h1 : zI S k j = 0) (h2 : zL S k j = 0) (h3 : zR S k j = none) (hty : zfk ty ≠ 9) : zFR cad ws S k j ty (defaultValue ty) := by
  unfold zFR
  cases ty <;> first
    | (exfalso; exact hty rfl)
    | (show defaultValue _ = Value.int (zI S k j); rw [h1]; rfl)
    | (show defaultValue _ = Value.long (zL S k j); rw [h2]; rfl)
    | (exact ⟨none, by rw [h3]; trivial, rfl⟩)
theorem zfk_at : ∀ {ci : Nat}, ci < 13 → ∀ k, k < zfn ci → zfk (zfty ci k) ≠ 9
  | 0, _ => by decide +kernel
  | 1, _ => by decide +kernel
  | 2, _ => by decide +kernel
  | 3, _ => by decide +kernel
  | 4, _ => by decide +kernel
  | 5, _ => by decide +kernel
  | 6, _ => by decide +kernel
  | 7, _ => by decide +kernel
  | 8, _ => by decide +kernel
  | 9, _ => by decide +kernel
  | 10, _ => by decide +kernel
  | 11, _ => by decide +kernel
  | 12, _ => by decide +kernel
  | n + 13, h => absurd h (by omega)
theorem zs_new {x ci : Nat} (C : zCx p l R s m args meth c M cad S0 A) (hp : zpcOf M i = pc) (hd : decode (zmCode M) pc = .ok (.new x, 3)) (hn : zpcOf M (i + 1) = pc + 3) (hci : ci < 13) (hw : zcl? (zmOwn M) x ci = true) (hcell : zu S + 1 - c0 ≤ R.cells) (hslot : zz S + zfn ci - z0 ≤ R.slots)
    (k : zGo p l e R s m args below meth c Q M cad tc D S0 A ws0 c0 z0 (i + 1) ls (.ref (zx S) :: st) (zNew S ci 0 (zfn ci) (fun _ => 0))) : zGo p l e R s m args below meth c Q M cad tc D S0 A ws0 c0 z0 i ls st S := by
  obtain ⟨hx, hb, hml, hown, hts, hlk, hrt, hin, htr, hA, hKc, hKw, htab, hRf, hRl⟩ := C
  intro ws H locs ar sr hW hL hl hS hc hz
  have hW' := hW
  obtain ⟨hK, hP, hD, hSS, hR, hKn, hX⟩ := hW'
  have hlink : Cond.classLink (zcn (zmOwn M)) x (zcn ci) ∈ zTB := by
    have := zcl_spec hw
    rwa [show zclnm ci = zcn ci by unfold zclnm; rw [if_pos (by omega)]] at this
  rw [hp]
  refine va_new (fs := (List.range (zfn ci)).map (fun j => defaultValue (zfty ci j))) hx hb hts (zlay_at hci) (zfty ci) (zty_at hci) hown (hts _ hlink) (hts _ (zin_at hci).1) (hts _ (zin_at hci).2) hK hP hD hSS hA (zcl_at hci)
    (fun j hj => by simp [vp_V, List.getD_eq_getElem?_getD, hj]) (by omega) (by omega) hd (fun q H1 g1 g2 g3 => ?_)
  have hx9 : zExt ws (ws ++ [(q, .inr (ci, (List.range (zfn ci)).map (fun j => defaultValue (zfty ci j))))]) := zExt.push _
  have hnew : zA cad (ws ++ [(q, .inr (ci, (List.range (zfn ci)).map (fun j => defaultValue (zfty ci j))))]) (zx S) q := Or.inr ⟨by rw [hR.1]; omega, _, by rw [hR.1, Nat.add_sub_cancel, List.getElem?_append_right (Nat.le_refl _), Nat.sub_self]; rfl⟩
  have hrep : zRep cad tc (ws ++ [(q, .inr (ci, (List.range (zfn ci)).map (fun j => defaultValue (zfty ci j))))]) (zNew S ci 0 (zfn ci) (fun _ => 0)) := by
    refine hR.push rfl (fun j hj => zNew_o hj) ⟨(va_up_self _ _ _).symm, hci, by simp, fun j v hv => ?_⟩
    have hj : j < zfn ci := by
      have := (List.getElem?_eq_some_iff.mp hv).1
      simpa using this
    have ev : v = defaultValue (zfty ci j) := by
      rw [List.getElem?_map, List.getElem?_range hj] at hv
      exact (Option.some.inj hv).symm
    rw [ev]
    exact zdflt (by rw [show zI (zNew S ci 0 (zfn ci) (fun _ => 0)) (zx S) = fun _ => 0 from va_up_self _ _ _]) (by rw [show zL (zNew S ci 0 (zfn ci) (fun _ => 0)) (zx S) = fun _ => 0 from va_up_self _ _ _]) (by rw [show zR (zNew S ci 0 (zfn ci) (fun _ => 0)) (zx S) = fun _ => none from va_up_self _ _ _]) (zfk_at hci j hj)
  have hKn' : zKon (zNew S ci 0 (zfn ci) (fun _ => 0)) S0 := hKn.put (b := zx S) (by rw [hR.1]; omega) (fun j hj => zNew_o hj)
  have := k _ H1 locs ar (.ref q :: sr) ⟨hK, g1, g2, g3, hrep, hKn', hX.tr hx9⟩ (hL.ext hx9) hl ⟨⟨q, rfl, hnew⟩, hS.ext hx9⟩ (by show c0 ≤ zu S + 1; omega) (by show z0 ≤ zz S + zfn ci; omega)
  rw [hn] at this
  have e1 : zu S - c0 + 1 = zu (zNew S ci 0 (zfn ci) (fun _ => 0)) - c0 := by show _ = zu S + 1 - c0; omega
  have e2 : zz S - z0 + zfn ci = zz (zNew S ci 0 (zfn ci) (fun _ => 0)) - z0 := by show _ = zz S + zfn ci - z0; omega
  rw [e1, e2]
  exact this
theorem zs_newa_int {n : Int32} (C : zCx p l R s m args meth c M cad S0 A) (hp : zpcOf M i = pc) (hd : decode (zmCode M) pc = .ok (.newarray .int, 2)) (hn : zpcOf M (i + 1) = pc + 2) (hn0 : ¬ n < 0) (hn1 : n.toNatClampNeg ≤ 60000000) (hcell : zu S + 1 - c0 ≤ R.cells) (hslot : zz S + n.toNatClampNeg - z0 ≤ R.slots)
    (k : zGo p l e R s m args below meth c Q M cad tc D S0 A ws0 c0 z0 (i + 1) ls (.ref (zx S) :: st) (zNew S 100 n.toNatClampNeg n.toNatClampNeg (fun _ => 0))) : zGo p l e R s m args below meth c Q M cad tc D S0 A ws0 c0 z0 i ls (.int n :: st) S := by
  obtain ⟨hx, hb, hml, hown, hts, hlk, hrt, hin, htr, hA, hKc, hKw, htab, hRf, hRl⟩ := C
  intro ws H locs ar sr hW hL hl hS hc hz
  obtain ⟨V0, sr, rfl, h8, hS1⟩ := hS.cons
  clear hS
  cases h8
  have hW' := hW
  obtain ⟨hK, hP, hD, hSS, hR, hKn, hX⟩ := hW'
  rw [hp]
  refine va_newa (atype := .int) hx hb (hts (Cond.arrayClass .int) zx_int) (ty := .int) rfl hK hP hD hSS hA (a0 := (n.toNatClampNeg, .inl (fun _ => 0))) (fun cA => rfl) hn0 rfl (by show n.toNatClampNeg * _ ≤ _; simp only [componentBytes]; omega) (by omega) (by omega) hd (fun q cA H1 g0 g1 g2 g3 => ?_)
  have hcA : cA = tc 100 := by
    have h1 := (g0.2 6 (cA, .int) rfl).2
    have h2 := (hK.2 0 (tc 100, .int) rfl).2
    exact Option.some.inj (h1.symm.trans h2)
  have hx9 : zExt ws (ws ++ [(q, .inl (cA, n.toNatClampNeg, .inl (fun _ => 0)))]) := zExt.push _
  have hnew : zA cad (ws ++ [(q, .inl (cA, n.toNatClampNeg, .inl (fun _ => 0)))]) (zx S) q := Or.inr ⟨by rw [hR.1]; omega, _, by rw [hR.1, Nat.add_sub_cancel, List.getElem?_append_right (Nat.le_refl _), Nat.sub_self]; rfl⟩
  have hrep : zRep cad tc (ws ++ [(q, .inl (cA, n.toNatClampNeg, .inl (fun _ => 0)))]) (zNew S 100 n.toNatClampNeg n.toNatClampNeg (fun _ => 0)) := by
    refine hR.push rfl (fun j hj => zNew_o hj) ⟨by rw [hcA, show zc (zNew S 100 n.toNatClampNeg n.toNatClampNeg (fun _ => 0)) (zx S) = 100 from va_up_self _ _ _], (va_up_self _ _ _).symm, (by have h9 : zc (zNew S 100 n.toNatClampNeg n.toNatClampNeg (fun _ => 0)) (zx S) = 100 := va_up_self _ _ _; exact Or.inl h9), (va_up_self _ _ _).symm⟩
  have hKn' : zKon (zNew S 100 n.toNatClampNeg n.toNatClampNeg (fun _ => 0)) S0 := hKn.put (b := zx S) (by rw [hR.1]; omega) (fun j hj => zNew_o hj)
  have := k _ H1 locs ar (.ref q :: sr) ⟨hK, g1, g2, g3, hrep, hKn', hX.tr hx9⟩ (hL.ext hx9) hl ⟨⟨q, rfl, hnew⟩, hS1.ext hx9⟩ (by show c0 ≤ zu S + 1; omega) (by show z0 ≤ zz S + n.toNatClampNeg; omega)
  rw [hn] at this
  have e1 : zu S - c0 + 1 = zu (zNew S 100 n.toNatClampNeg n.toNatClampNeg (fun _ => 0)) - c0 := by show _ = zu S + 1 - c0; omega
  have e2 : zz S - z0 + n.toNatClampNeg = zz (zNew S 100 n.toNatClampNeg n.toNatClampNeg (fun _ => 0)) - z0 := by show _ = zz S + n.toNatClampNeg - z0; omega
  rw [← e1, ← e2] at this
  exact this
theorem zs_newa_long {n : Int32} (C : zCx p l R s m args meth c M cad S0 A) (hp : zpcOf M i = pc) (hd : decode (zmCode M) pc = .ok (.newarray .long, 2)) (hn : zpcOf M (i + 1) = pc + 2) (hn0 : ¬ n < 0) (hn1 : n.toNatClampNeg ≤ 60000000) (hcell : zu S + 1 - c0 ≤ R.cells) (hslot : zz S + n.toNatClampNeg - z0 ≤ R.slots)
    (k : zGo p l e R s m args below meth c Q M cad tc D S0 A ws0 c0 z0 (i + 1) ls (.ref (zx S) :: st) (zNew S 101 n.toNatClampNeg n.toNatClampNeg (fun _ => 0))) : zGo p l e R s m args below meth c Q M cad tc D S0 A ws0 c0 z0 i ls (.int n :: st) S := by
  obtain ⟨hx, hb, hml, hown, hts, hlk, hrt, hin, htr, hA, hKc, hKw, htab, hRf, hRl⟩ := C
  intro ws H locs ar sr hW hL hl hS hc hz
  obtain ⟨V0, sr, rfl, h8, hS1⟩ := hS.cons
  clear hS
  cases h8
  have hW' := hW
  obtain ⟨hK, hP, hD, hSS, hR, hKn, hX⟩ := hW'
  rw [hp]
  refine va_newa (atype := .long) hx hb (hts (Cond.arrayClass .long) zx_long) (ty := .long) rfl hK hP hD hSS hA (a0 := (n.toNatClampNeg, .inr (.inl (fun _ => 0)))) (fun cA => rfl) hn0 rfl (by show n.toNatClampNeg * _ ≤ _; simp only [componentBytes]; omega) (by omega) (by omega) hd (fun q cA H1 g0 g1 g2 g3 => ?_)
  have hcA : cA = tc 101 := by
    have h1 := (g0.2 6 (cA, .long) rfl).2
    have h2 := (hK.2 1 (tc 101, .long) rfl).2
    exact Option.some.inj (h1.symm.trans h2)
  have hx9 : zExt ws (ws ++ [(q, .inl (cA, n.toNatClampNeg, .inr (.inl (fun _ => 0))))]) := zExt.push _
  have hnew : zA cad (ws ++ [(q, .inl (cA, n.toNatClampNeg, .inr (.inl (fun _ => 0))))]) (zx S) q := Or.inr ⟨by rw [hR.1]; omega, _, by rw [hR.1, Nat.add_sub_cancel, List.getElem?_append_right (Nat.le_refl _), Nat.sub_self]; rfl⟩
  have hrep : zRep cad tc (ws ++ [(q, .inl (cA, n.toNatClampNeg, .inr (.inl (fun _ => 0))))]) (zNew S 101 n.toNatClampNeg n.toNatClampNeg (fun _ => 0)) := by
    refine hR.push rfl (fun j hj => zNew_o hj) ⟨by rw [hcA, show zc (zNew S 101 n.toNatClampNeg n.toNatClampNeg (fun _ => 0)) (zx S) = 101 from va_up_self _ _ _], (va_up_self _ _ _).symm, (by have h9 : zc (zNew S 101 n.toNatClampNeg n.toNatClampNeg (fun _ => 0)) (zx S) = 101 := va_up_self _ _ _; exact h9), (va_up_self _ _ _).symm⟩
  have hKn' : zKon (zNew S 101 n.toNatClampNeg n.toNatClampNeg (fun _ => 0)) S0 := hKn.put (b := zx S) (by rw [hR.1]; omega) (fun j hj => zNew_o hj)
  have := k _ H1 locs ar (.ref q :: sr) ⟨hK, g1, g2, g3, hrep, hKn', hX.tr hx9⟩ (hL.ext hx9) hl ⟨⟨q, rfl, hnew⟩, hS1.ext hx9⟩ (by show c0 ≤ zu S + 1; omega) (by show z0 ≤ zz S + n.toNatClampNeg; omega)
  rw [hn] at this
  have e1 : zu S - c0 + 1 = zu (zNew S 101 n.toNatClampNeg n.toNatClampNeg (fun _ => 0)) - c0 := by show _ = zu S + 1 - c0; omega
  have e2 : zz S - z0 + n.toNatClampNeg = zz (zNew S 101 n.toNatClampNeg n.toNatClampNeg (fun _ => 0)) - z0 := by show _ = zz S + n.toNatClampNeg - z0; omega
  rw [← e1, ← e2] at this
  exact this
theorem zs_newa_bool {n : Int32} (C : zCx p l R s m args meth c M cad S0 A) (hp : zpcOf M i = pc) (hd : decode (zmCode M) pc = .ok (.newarray .boolean, 2)) (hn : zpcOf M (i + 1) = pc + 2) (hn0 : ¬ n < 0) (hn1 : n.toNatClampNeg ≤ 60000000) (hcell : zu S + 1 - c0 ≤ R.cells) (hslot : zz S + n.toNatClampNeg - z0 ≤ R.slots)
    (k : zGo p l e R s m args below meth c Q M cad tc D S0 A ws0 c0 z0 (i + 1) ls (.ref (zx S) :: st) (zNew S 102 n.toNatClampNeg n.toNatClampNeg (fun _ => 0))) : zGo p l e R s m args below meth c Q M cad tc D S0 A ws0 c0 z0 i ls (.int n :: st) S := by
  obtain ⟨hx, hb, hml, hown, hts, hlk, hrt, hin, htr, hA, hKc, hKw, htab, hRf, hRl⟩ := C
  intro ws H locs ar sr hW hL hl hS hc hz
  obtain ⟨V0, sr, rfl, h8, hS1⟩ := hS.cons
  clear hS
  cases h8
  have hW' := hW
  obtain ⟨hK, hP, hD, hSS, hR, hKn, hX⟩ := hW'
  rw [hp]
  refine va_newa (atype := .boolean) hx hb (hts (Cond.arrayClass .boolean) zx_bool) (ty := .boolean) rfl hK hP hD hSS hA (a0 := (n.toNatClampNeg, .inl (fun _ => 0))) (fun cA => rfl) hn0 rfl (by show n.toNatClampNeg * _ ≤ _; simp only [componentBytes]; omega) (by omega) (by omega) hd (fun q cA H1 g0 g1 g2 g3 => ?_)
  have hcA : cA = tc 102 := by
    have h1 := (g0.2 6 (cA, .boolean) rfl).2
    have h2 := (hK.2 2 (tc 102, .boolean) rfl).2
    exact Option.some.inj (h1.symm.trans h2)
  have hx9 : zExt ws (ws ++ [(q, .inl (cA, n.toNatClampNeg, .inl (fun _ => 0)))]) := zExt.push _
  have hnew : zA cad (ws ++ [(q, .inl (cA, n.toNatClampNeg, .inl (fun _ => 0)))]) (zx S) q := Or.inr ⟨by rw [hR.1]; omega, _, by rw [hR.1, Nat.add_sub_cancel, List.getElem?_append_right (Nat.le_refl _), Nat.sub_self]; rfl⟩
  have hrep : zRep cad tc (ws ++ [(q, .inl (cA, n.toNatClampNeg, .inl (fun _ => 0)))]) (zNew S 102 n.toNatClampNeg n.toNatClampNeg (fun _ => 0)) := by
    refine hR.push rfl (fun j hj => zNew_o hj) ⟨by rw [hcA, show zc (zNew S 102 n.toNatClampNeg n.toNatClampNeg (fun _ => 0)) (zx S) = 102 from va_up_self _ _ _], (va_up_self _ _ _).symm, (by have h9 : zc (zNew S 102 n.toNatClampNeg n.toNatClampNeg (fun _ => 0)) (zx S) = 102 := va_up_self _ _ _; exact Or.inr h9), (va_up_self _ _ _).symm⟩
  have hKn' : zKon (zNew S 102 n.toNatClampNeg n.toNatClampNeg (fun _ => 0)) S0 := hKn.put (b := zx S) (by rw [hR.1]; omega) (fun j hj => zNew_o hj)
  have := k _ H1 locs ar (.ref q :: sr) ⟨hK, g1, g2, g3, hrep, hKn', hX.tr hx9⟩ (hL.ext hx9) hl ⟨⟨q, rfl, hnew⟩, hS1.ext hx9⟩ (by show c0 ≤ zu S + 1; omega) (by show z0 ≤ zz S + n.toNatClampNeg; omega)
  rw [hn] at this
  have e1 : zu S - c0 + 1 = zu (zNew S 102 n.toNatClampNeg n.toNatClampNeg (fun _ => 0)) - c0 := by show _ = zu S + 1 - c0; omega
  have e2 : zz S - z0 + n.toNatClampNeg = zz (zNew S 102 n.toNatClampNeg n.toNatClampNeg (fun _ => 0)) - z0 := by show _ = zz S + n.toNatClampNeg - z0; omega
  rw [← e1, ← e2] at this
  exact this
theorem zs_anew_State {x : Nat} {n : Int32} (C : zCx p l R s m args meth c M cad S0 A) (hp : zpcOf M i = pc) (hd : decode (zmCode M) pc = .ok (.anewarray x, 3)) (hn : zpcOf M (i + 1) = pc + 3) (hw : zcl? (zmOwn M) x 3 = true) (hn0 : ¬ n < 0) (hn1 : n.toNatClampNeg ≤ 60000000) (hcell : zu S + 1 - c0 ≤ R.cells) (hslot : zz S + n.toNatClampNeg - z0 ≤ R.slots)
    (k : zGo p l e R s m args below meth c Q M cad tc D S0 A ws0 c0 z0 (i + 1) ls (.ref (zx S) :: st) (zNew S 113 n.toNatClampNeg n.toNatClampNeg (fun _ => 0))) : zGo p l e R s m args below meth c Q M cad tc D S0 A ws0 c0 z0 i ls (.int n :: st) S := by
  obtain ⟨hx, hb, hml, hown, hts, hlk, hrt, hin, htr, hA, hKc, hKw, htab, hRf, hRl⟩ := C
  intro ws H locs ar sr hW hL hl hS hc hz
  obtain ⟨V0, sr, rfl, h8, hS1⟩ := hS.cons
  clear hS
  cases h8
  have hW' := hW
  obtain ⟨hK, hP, hD, hSS, hR, hKn, hX⟩ := hW'
  have hlink : Cond.classLink (zcn (zmOwn M)) x RX3 ∈ zTB := zcl_spec hw
  rw [hp]
  refine va_newq hx hb hown (hts _ hlink) hKw.2.2.1 hK hP hD hSS hA hn0 rfl (by omega) (by omega) (by omega) hd (fun q cA H1 g0 g1 g2 g3 => ?_)
  have hcA : cA = tc 113 := by
    obtain ⟨-, -, -, -, -, h1⟩ := (g0.2 6 (cA, .object RX3) rfl).2
    obtain ⟨-, -, -, -, -, h2⟩ := (hK.2 3 (tc 113, .object RX3) rfl).2
    exact Option.some.inj (h1.symm.trans h2)
  have hx9 : zExt ws (ws ++ [(q, .inl (cA, n.toNatClampNeg, .inr (.inr (.inr (.inr (fun _ => none))))))]) := zExt.push _
  have hnew : zA cad (ws ++ [(q, .inl (cA, n.toNatClampNeg, .inr (.inr (.inr (.inr (fun _ => none))))))]) (zx S) q := Or.inr ⟨by rw [hR.1]; omega, _, by rw [hR.1, Nat.add_sub_cancel, List.getElem?_append_right (Nat.le_refl _), Nat.sub_self]; rfl⟩
  have hrep : zRep cad tc (ws ++ [(q, .inl (cA, n.toNatClampNeg, .inr (.inr (.inr (.inr (fun _ => none))))))]) (zNew S 113 n.toNatClampNeg n.toNatClampNeg (fun _ => 0)) := by
    refine hR.push rfl (fun j hj => zNew_o hj) ⟨by rw [hcA, show zc (zNew S 113 n.toNatClampNeg n.toNatClampNeg (fun _ => 0)) (zx S) = 113 from va_up_self _ _ _], (va_up_self _ _ _).symm, (by have h9 : zc (zNew S 113 n.toNatClampNeg n.toNatClampNeg (fun _ => 0)) (zx S) = 113 := va_up_self _ _ _; exact Or.inl h9), fun i9 _ => by rw [show zR (zNew S 113 n.toNatClampNeg n.toNatClampNeg (fun _ => 0)) (zx S) = fun _ => none from va_up_self _ _ _]; trivial⟩
  have hKn' : zKon (zNew S 113 n.toNatClampNeg n.toNatClampNeg (fun _ => 0)) S0 := hKn.put (b := zx S) (by rw [hR.1]; omega) (fun j hj => zNew_o hj)
  have := k _ H1 locs ar (.ref q :: sr) ⟨hK, g1, g2, g3, hrep, hKn', hX.tr hx9⟩ (hL.ext hx9) hl ⟨⟨q, rfl, hnew⟩, hS1.ext hx9⟩ (by show c0 ≤ zu S + 1; omega) (by show z0 ≤ zz S + n.toNatClampNeg; omega)
  rw [hn] at this
  have e1 : zu S - c0 + 1 = zu (zNew S 113 n.toNatClampNeg n.toNatClampNeg (fun _ => 0)) - c0 := by show _ = zu S + 1 - c0; omega
  have e2 : zz S - z0 + n.toNatClampNeg = zz (zNew S 113 n.toNatClampNeg n.toNatClampNeg (fun _ => 0)) - z0 := by show _ = zz S + n.toNatClampNeg - z0; omega
  rw [← e1, ← e2] at this
  exact this
theorem zs_anew_Task {x : Nat} {n : Int32} (C : zCx p l R s m args meth c M cad S0 A) (hp : zpcOf M i = pc) (hd : decode (zmCode M) pc = .ok (.anewarray x, 3)) (hn : zpcOf M (i + 1) = pc + 3) (hw : zcl? (zmOwn M) x 5 = true) (hn0 : ¬ n < 0) (hn1 : n.toNatClampNeg ≤ 60000000) (hcell : zu S + 1 - c0 ≤ R.cells) (hslot : zz S + n.toNatClampNeg - z0 ≤ R.slots)
    (k : zGo p l e R s m args below meth c Q M cad tc D S0 A ws0 c0 z0 (i + 1) ls (.ref (zx S) :: st) (zNew S 115 n.toNatClampNeg n.toNatClampNeg (fun _ => 0))) : zGo p l e R s m args below meth c Q M cad tc D S0 A ws0 c0 z0 i ls (.int n :: st) S := by
  obtain ⟨hx, hb, hml, hown, hts, hlk, hrt, hin, htr, hA, hKc, hKw, htab, hRf, hRl⟩ := C
  intro ws H locs ar sr hW hL hl hS hc hz
  obtain ⟨V0, sr, rfl, h8, hS1⟩ := hS.cons
  clear hS
  cases h8
  have hW' := hW
  obtain ⟨hK, hP, hD, hSS, hR, hKn, hX⟩ := hW'
  have hlink : Cond.classLink (zcn (zmOwn M)) x RX5 ∈ zTB := zcl_spec hw
  rw [hp]
  refine va_newq hx hb hown (hts _ hlink) hKw.2.2.2.1 hK hP hD hSS hA hn0 rfl (by omega) (by omega) (by omega) hd (fun q cA H1 g0 g1 g2 g3 => ?_)
  have hcA : cA = tc 115 := by
    obtain ⟨-, -, -, -, -, h1⟩ := (g0.2 6 (cA, .object RX5) rfl).2
    obtain ⟨-, -, -, -, -, h2⟩ := (hK.2 4 (tc 115, .object RX5) rfl).2
    exact Option.some.inj (h1.symm.trans h2)
  have hx9 : zExt ws (ws ++ [(q, .inl (cA, n.toNatClampNeg, .inr (.inr (.inr (.inr (fun _ => none))))))]) := zExt.push _
  have hnew : zA cad (ws ++ [(q, .inl (cA, n.toNatClampNeg, .inr (.inr (.inr (.inr (fun _ => none))))))]) (zx S) q := Or.inr ⟨by rw [hR.1]; omega, _, by rw [hR.1, Nat.add_sub_cancel, List.getElem?_append_right (Nat.le_refl _), Nat.sub_self]; rfl⟩
  have hrep : zRep cad tc (ws ++ [(q, .inl (cA, n.toNatClampNeg, .inr (.inr (.inr (.inr (fun _ => none))))))]) (zNew S 115 n.toNatClampNeg n.toNatClampNeg (fun _ => 0)) := by
    refine hR.push rfl (fun j hj => zNew_o hj) ⟨by rw [hcA, show zc (zNew S 115 n.toNatClampNeg n.toNatClampNeg (fun _ => 0)) (zx S) = 115 from va_up_self _ _ _], (va_up_self _ _ _).symm, (by have h9 : zc (zNew S 115 n.toNatClampNeg n.toNatClampNeg (fun _ => 0)) (zx S) = 115 := va_up_self _ _ _; exact Or.inr (Or.inl h9)), fun i9 _ => by rw [show zR (zNew S 115 n.toNatClampNeg n.toNatClampNeg (fun _ => 0)) (zx S) = fun _ => none from va_up_self _ _ _]; trivial⟩
  have hKn' : zKon (zNew S 115 n.toNatClampNeg n.toNatClampNeg (fun _ => 0)) S0 := hKn.put (b := zx S) (by rw [hR.1]; omega) (fun j hj => zNew_o hj)
  have := k _ H1 locs ar (.ref q :: sr) ⟨hK, g1, g2, g3, hrep, hKn', hX.tr hx9⟩ (hL.ext hx9) hl ⟨⟨q, rfl, hnew⟩, hS1.ext hx9⟩ (by show c0 ≤ zu S + 1; omega) (by show z0 ≤ zz S + n.toNatClampNeg; omega)
  rw [hn] at this
  have e1 : zu S - c0 + 1 = zu (zNew S 115 n.toNatClampNeg n.toNatClampNeg (fun _ => 0)) - c0 := by show _ = zu S + 1 - c0; omega
  have e2 : zz S - z0 + n.toNatClampNeg = zz (zNew S 115 n.toNatClampNeg n.toNatClampNeg (fun _ => 0)) - z0 := by show _ = zz S + n.toNatClampNeg - z0; omega
  rw [← e1, ← e2] at this
  exact this
theorem zs_anew_Way {x : Nat} {n : Int32} (C : zCx p l R s m args meth c M cad S0 A) (hp : zpcOf M i = pc) (hd : decode (zmCode M) pc = .ok (.anewarray x, 3)) (hn : zpcOf M (i + 1) = pc + 3) (hw : zcl? (zmOwn M) x 9 = true) (hn0 : ¬ n < 0) (hn1 : n.toNatClampNeg ≤ 60000000) (hcell : zu S + 1 - c0 ≤ R.cells) (hslot : zz S + n.toNatClampNeg - z0 ≤ R.slots)
    (k : zGo p l e R s m args below meth c Q M cad tc D S0 A ws0 c0 z0 (i + 1) ls (.ref (zx S) :: st) (zNew S 119 n.toNatClampNeg n.toNatClampNeg (fun _ => 0))) : zGo p l e R s m args below meth c Q M cad tc D S0 A ws0 c0 z0 i ls (.int n :: st) S := by
  obtain ⟨hx, hb, hml, hown, hts, hlk, hrt, hin, htr, hA, hKc, hKw, htab, hRf, hRl⟩ := C
  intro ws H locs ar sr hW hL hl hS hc hz
  obtain ⟨V0, sr, rfl, h8, hS1⟩ := hS.cons
  clear hS
  cases h8
  have hW' := hW
  obtain ⟨hK, hP, hD, hSS, hR, hKn, hX⟩ := hW'
  have hlink : Cond.classLink (zcn (zmOwn M)) x RX9 ∈ zTB := zcl_spec hw
  rw [hp]
  refine va_newq hx hb hown (hts _ hlink) hKw.2.2.2.2.1 hK hP hD hSS hA hn0 rfl (by omega) (by omega) (by omega) hd (fun q cA H1 g0 g1 g2 g3 => ?_)
  have hcA : cA = tc 119 := by
    obtain ⟨-, -, -, -, -, h1⟩ := (g0.2 6 (cA, .object RX9) rfl).2
    obtain ⟨-, -, -, -, -, h2⟩ := (hK.2 5 (tc 119, .object RX9) rfl).2
    exact Option.some.inj (h1.symm.trans h2)
  have hx9 : zExt ws (ws ++ [(q, .inl (cA, n.toNatClampNeg, .inr (.inr (.inr (.inr (fun _ => none))))))]) := zExt.push _
  have hnew : zA cad (ws ++ [(q, .inl (cA, n.toNatClampNeg, .inr (.inr (.inr (.inr (fun _ => none))))))]) (zx S) q := Or.inr ⟨by rw [hR.1]; omega, _, by rw [hR.1, Nat.add_sub_cancel, List.getElem?_append_right (Nat.le_refl _), Nat.sub_self]; rfl⟩
  have hrep : zRep cad tc (ws ++ [(q, .inl (cA, n.toNatClampNeg, .inr (.inr (.inr (.inr (fun _ => none))))))]) (zNew S 119 n.toNatClampNeg n.toNatClampNeg (fun _ => 0)) := by
    refine hR.push rfl (fun j hj => zNew_o hj) ⟨by rw [hcA, show zc (zNew S 119 n.toNatClampNeg n.toNatClampNeg (fun _ => 0)) (zx S) = 119 from va_up_self _ _ _], (va_up_self _ _ _).symm, (by have h9 : zc (zNew S 119 n.toNatClampNeg n.toNatClampNeg (fun _ => 0)) (zx S) = 119 := va_up_self _ _ _; exact Or.inr (Or.inr h9)), fun i9 _ => by rw [show zR (zNew S 119 n.toNatClampNeg n.toNatClampNeg (fun _ => 0)) (zx S) = fun _ => none from va_up_self _ _ _]; trivial⟩
  have hKn' : zKon (zNew S 119 n.toNatClampNeg n.toNatClampNeg (fun _ => 0)) S0 := hKn.put (b := zx S) (by rw [hR.1]; omega) (fun j hj => zNew_o hj)
  have := k _ H1 locs ar (.ref q :: sr) ⟨hK, g1, g2, g3, hrep, hKn', hX.tr hx9⟩ (hL.ext hx9) hl ⟨⟨q, rfl, hnew⟩, hS1.ext hx9⟩ (by show c0 ≤ zu S + 1; omega) (by show z0 ≤ zz S + n.toNatClampNeg; omega)
  rw [hn] at this
  have e1 : zu S - c0 + 1 = zu (zNew S 119 n.toNatClampNeg n.toNatClampNeg (fun _ => 0)) - c0 := by show _ = zu S + 1 - c0; omega
  have e2 : zz S - z0 + n.toNatClampNeg = zz (zNew S 119 n.toNatClampNeg n.toNatClampNeg (fun _ => 0)) - z0 := by show _ = zz S + n.toNatClampNeg - z0; omega
  rw [← e1, ← e2] at this
  exact this
theorem zs_cast {x a : Nat} (C : zCx p l R s m args meth c M cad S0 A) (hp : zpcOf M i = pc) (hd : decode (zmCode M) pc = .ok (.checkcast x, 3)) (hn : zpcOf M (i + 1) = pc + 3) (hw : zcl? (zmOwn M) x 2000 = true) (ha0 : zc S a = 100) (k : zGo p l e R s m args below meth c Q M cad tc D S0 A ws0 c0 z0 (i + 1) ls (.ref a :: st) S) : zGo p l e R s m args below meth c Q M cad tc D S0 A ws0 c0 z0 i ls (.ref a :: st) S := by
  obtain ⟨hx, hb, hml, hown, hts, hlk, hrt, hin, htr, hA, hKc, hKw, htab, hRf, hRl⟩ := C
  intro ws H locs ar sr hW hL hl hS hc hz
  obtain ⟨V, sr, rfl, ⟨q, rfl, ha⟩, hS1⟩ := hS.cons
  clear hS
  have hW' := hW
  obtain ⟨hK, hP, hD, hSS, hR, hKn, hX⟩ := hW'
  obtain ⟨h75, e9, he, hE⟩ := hW.cell hKc ha (by omega) (by omega) (by omega) (by omega)
  rw [hE.ints (by omega), ha0] at he
  have hlink : Cond.classLink (zcn (zmOwn M)) x "[I" ∈ zTB := zcl_spec hw
  rw [hp]
  refine va_castA hx hb hown (hts _ hlink) hP (a - 75) he ((hK.2 0 (tc 100, .int) rfl).2) hd ?_
  have := k ws H locs ar (.ref q :: sr) hW hL hl ⟨⟨q, rfl, ha⟩, hS1⟩ hc hz
  rwa [hn] at this
theorem zs_gets {x k0 : Nat} (C : zCx p l R s m args meth c M cad S0 A) (hp : zpcOf M i = pc) (hd : decode (zmCode M) pc = .ok (.getstatic x, 3)) (hn : zpcOf M (i + 1) = pc + 3) (hw : zGS.any (fun q => q.2 == (zmOwn M, x, k0)) = true) (h1 : 0 < k0) (h7 : k0 < 7) (k : zGo p l e R s m args below meth c Q M cad tc D S0 A ws0 c0 z0 (i + 1) ls (.ref k0 :: st) S) : zGo p l e R s m args below meth c Q M cad tc D S0 A ws0 c0 z0 i ls st S := by
  obtain ⟨hx, hb, hml, hown, hts, hlk, hrt, hin, htr, hA, hKc, hKw, htab, hRf, hRl⟩ := C
  intro ws H locs ar sr hW hL hl hS hc hz
  have hW' := hW
  obtain ⟨hK, hP, hD, hSS, hR, hKn, hX⟩ := hW'
  rw [hp]
  refine va_gets hx hb (hKc.2.2.2.2.1 k0 h1 h7) hSS hown (hts _ (zGS_at hw)) (fun _ h => h) hd ?_
  have := k ws H locs ar (.ref (cad k0) :: sr) hW hL hl ⟨⟨cad k0, rfl, Or.inl ⟨by omega, rfl⟩⟩, hS⟩ hc hz
  rwa [hn] at this
theorem zs_getsC (C : zCx p l R s m args meth c M cad S0 A) (hp : zpcOf M i = pc) (hd : decode (zmCode M) pc = .ok (.getstatic 38, 3)) (hn : zpcOf M (i + 1) = pc + 3) (ho : zmOwn M = 15) (k : zGo p l e R s m args below meth c Q M cad tc D S0 A ws0 c0 z0 (i + 1) ls (.int (nI 1) :: st) S) : zGo p l e R s m args below meth c Q M cad tc D S0 A ws0 c0 z0 i ls st S := by
  obtain ⟨hx, hb, hml, hown, hts, hlk, hrt, hin, htr, hA, hKc, hKw, htab, hRf, hRl⟩ := C
  intro ws H locs ar sr hW hL hl hS hc hz
  have hW' := hW
  obtain ⟨hK, hP, hD, hSS, hR, hKn, hX⟩ := hW'
  rw [ho] at hown
  rw [hp]
  refine va_gets hx hb hKc.2.2.2.2.2.2.1 hSS hown (hts _ zx_compact) (fun _ h => h) hd ?_
  have := k ws H locs ar (.int 1 :: sr) hW hL hl ⟨rfl, hS⟩ hc hz
  rwa [hn] at this
theorem zs_getsF (C : zCx p l R s m args meth c M cad S0 A) (hp : zpcOf M i = pc) (hd : decode (zmCode M) pc = .ok (.getstatic 1053, 3)) (hn : zpcOf M (i + 1) = pc + 3) (ho : zmOwn M = 15) (k : zGo p l e R s m args below meth c Q M cad tc D S0 A ws0 c0 z0 (i + 1) ls (.float 0 :: st) S) : zGo p l e R s m args below meth c Q M cad tc D S0 A ws0 c0 z0 i ls st S := by
  obtain ⟨hx, hb, hml, hown, hts, hlk, hrt, hin, htr, hA, hKc, hKw, htab, hRf, hRl⟩ := C
  intro ws H locs ar sr hW hL hl hS hc hz
  have hW' := hW
  obtain ⟨hK, hP, hD, hSS, hR, hKn, hX⟩ := hW'
  rw [ho] at hown
  rw [hp]
  rcases hKc.2.2.2.2.2.2.2.1 with h9 | ⟨t, h9⟩
  · refine va_gets hx hb h9 hSS hown (hts _ zx_fmt) (fun _ h => h) hd ?_
    have := k ws H locs ar (.null :: sr) hW hL hl ⟨Or.inl rfl, hS⟩ hc hz
    rwa [hn] at this
  · refine va_gets hx hb h9 hSS hown (hts _ zx_fmt) (fun _ h => h) hd ?_
    have := k ws H locs ar (.ref t :: sr) hW hL hl ⟨Or.inr ⟨t, rfl⟩, hS⟩ hc hz
    rwa [hn] at this
theorem zs_strval {a b : Nat} (C : zCx p l R s m args meth c M cad S0 A) (hp : zpcOf M i = pc) (hd : decode (zmCode M) pc = .ok (.getfield 9, 3)) (hn : zpcOf M (i + 1) = pc + 3) (ho : zmOwn M = 15) (ha0 : zc S a = 15) (hb0 : zR S a 0 = some b) (k : zGo p l e R s m args below meth c Q M cad tc D S0 A ws0 c0 z0 (i + 1) ls (.ref b :: st) S) : zGo p l e R s m args below meth c Q M cad tc D S0 A ws0 c0 z0 i ls (.ref a :: st) S := by
  obtain ⟨hx, hb, hml, hown, hts, hlk, hrt, hin, htr, hA, hKc, hKw, htab, hRf, hRl⟩ := C
  intro ws H locs ar sr hW hL hl hS hc hz
  obtain ⟨V, sr, rfl, ⟨q, rfl, ha⟩, hS1⟩ := hS.cons
  clear hS
  have hW' := hW
  obtain ⟨hK, hP, hD, hSS, hR, hKn, hX⟩ := hW'
  obtain ⟨h75, rfl, e1, e2, e3, e4⟩ := hW.const ha (by omega)
  obtain ⟨-, -, b', hb1, hb2, hb3⟩ := hKc.2.2.2.1 a h75 (by omega)
  rw [e4, hb0] at hb2
  cases hb2
  rw [ho] at hown
  rw [hp]
  refine vk_getf hx hb hb3 hSS hown (hts _ zx_value) (fun _ h => h) hd ?_
  have := k ws H locs ar (.ref (cad b) :: sr) hW hL hl ⟨⟨cad b, rfl, Or.inl ⟨hb1, rfl⟩⟩, hS1⟩ hc hz
  rwa [hn] at this
theorem zs_strcod {a : Nat} (C : zCx p l R s m args meth c M cad S0 A) (hp : zpcOf M i = pc) (hd : decode (zmCode M) pc = .ok (.getfield 15, 3)) (hn : zpcOf M (i + 1) = pc + 3) (ho : zmOwn M = 15) (ha0 : zc S a = 15) (k : zGo p l e R s m args below meth c Q M cad tc D S0 A ws0 c0 z0 (i + 1) ls (.int (zI S a 1) :: st) S) : zGo p l e R s m args below meth c Q M cad tc D S0 A ws0 c0 z0 i ls (.ref a :: st) S := by
  obtain ⟨hx, hb, hml, hown, hts, hlk, hrt, hin, htr, hA, hKc, hKw, htab, hRf, hRl⟩ := C
  intro ws H locs ar sr hW hL hl hS hc hz
  obtain ⟨V, sr, rfl, ⟨q, rfl, ha⟩, hS1⟩ := hS.cons
  clear hS
  have hW' := hW
  obtain ⟨hK, hP, hD, hSS, hR, hKn, hX⟩ := hW'
  obtain ⟨h75, rfl, e1, e2, e3, e4⟩ := hW.const ha (by omega)
  obtain ⟨-, hb3, -⟩ := hKc.2.2.2.1 a h75 (by omega)
  rw [e3] at hb3
  rw [ho] at hown
  rw [hp]
  refine vk_getf hx hb hb3 hSS hown (hts _ zx_coder) (fun _ h => h) hd ?_
  have := k ws H locs ar (.int (zI S a 1) :: sr) hW hL hl ⟨rfl, hS1⟩ hc hz
  rwa [hn] at this
theorem zs_objinit {x a : Nat} (C : zCx p l R s m args meth c M cad S0 A) (hp : zpcOf M i = pc) (hd : decode (zmCode M) pc = .ok (.invokespecial x, 3)) (hn : zpcOf M (i + 1) = pc + 3) (hw : zP_objinit.any (fun q => q.2 == (zmOwn M, x)) = true) (hst : st.length ≤ 40) (k : zGo p l e R s m args below meth c Q M cad tc D S0 A ws0 c0 z0 (i + 1) ls st S) : zGo p l e R s m args below meth c Q M cad tc D S0 A ws0 c0 z0 i ls (.ref a :: st) S := by
  obtain ⟨hx, hb, hml, hown, hts, hlk, hrt, hin, htr, hA, hKc, hKw, htab, hRf, hRl⟩ := C
  intro ws H locs ar sr hW hL hl hS hc hz
  obtain ⟨V, sr, rfl, ⟨q, rfl, ha⟩, hS1⟩ := hS.cons
  clear hS
  have hlink : Cond.methodLink (zcn (zmOwn M)) x Lib.objectInit ∈ zTB := by
    obtain ⟨⟨j, q⟩, hq, he⟩ := List.any_eq_true.mp hw
    have he : q = (zmOwn M, x) := by simpa using he
    subst he
    exact zhas_in (List.all_eq_true.mp zP_objinit_ok _ hq)
  have hcat := hS1.cats
  rw [hp]
  refine W.objInit (g := F0 m pc ar (.ref q :: sr)) hx hb hown (hts _ hlink) (hts _ zx_oins) (hts _ zx_ocode) rfl (by show ar.size = _; rw [hL.1, hl, hml]) rfl hd (by omega) (by show 2 * 0 + _ + 12 ≤ _; omega) ?_
  have := k ws H locs ar sr hW hL hl hS1 hc hz
  rwa [hn] at this
end ZHeap2
