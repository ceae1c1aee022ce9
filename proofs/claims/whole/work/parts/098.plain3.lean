/-! Arrays, new cells and natives, out of the check and the predicate zv; then all together -/
theorem zGS_all : zGS.all (fun q => Nat.blt 0 q.2.2.2 && Nat.blt q.2.2.2 7) = true := by decide +kernel
theorem zGS_lt {own x k : Nat} (h : zGS.any (fun q => q.2 == (own, x, k)) = true) : 0 < k ∧ k < 7 := by
  obtain ⟨⟨j, q⟩, hq, he⟩ := List.any_eq_true.mp h
  have he : q = (own, x, k) := by simpa using he
  subst he
  have h9 := List.all_eq_true.mp zGS_all _ hq
  exact ⟨Nat.le_of_ble_eq_true (zand h9).1, Nat.le_of_ble_eq_true (zand h9).2⟩
section ZPlain3
variable {p : Program} {l : Launch} {e : Env} {R : Room} {s : State} {m : MethodId} {args : Array Value} {below : List Frame} {meth : Method} {c : Code} {Q : State → Prop} {M : ZMt} {cad : Nat → Nat} {tc : Nat → ClassId} {D : va_G} {S0 : ZSt} {A : Nat → Prop} {ws0 : va_W} {c0 z0 : Nat}
variable {i pc len : Nat} {r : List Nat} {ls : ZLo} {st : List Value} {S : ZSt} {K : ZNx}
theorem zt_gets {x : Nat} (C : zCx p l R s m args meth c M cad S0 A) (hp : zpcOf M i = pc) (hd : decode (zmCode M) pc = .ok (.getstatic x, len)) (hck : zchk M i (pc, .getstatic x, len, r) = true) (hv : zv (.getstatic x) r i ls st S K)
    (hK : ∀ i1 l1 s1 S1, K i1 l1 s1 S1 → zu S1 - c0 ≤ R.cells ∧ zz S1 - z0 ≤ R.slots ∧ zGo p l e R s m args below meth c Q M cad tc D S0 A ws0 c0 z0 i1 l1 s1 S1) : zGo p l e R s m args below meth c Q M cad tc D S0 A ws0 c0 z0 i ls st S := by
  have hck : (Nat.beq len 3 && (znx M i pc 3 && (match (generalizing := false) r with
      | [0, k] => Nat.beq (zmOwn M) 15 && (Nat.beq x 38 && Nat.beq k 1)
      | [1, k] => zGS.any (fun q => q.2 == (zmOwn M, x, k))
      | [2] => Nat.beq (zmOwn M) 15 && Nat.beq x 1053
      | _ => false))) = true := hck
  obtain ⟨h1, h20⟩ := zand hck
  obtain ⟨h2, h3⟩ := zand h20
  clear h20
  obtain rfl : len = 3 := Nat.eq_of_beq_eq_true h1
  have hw : (match (generalizing := false) r with
    | [0, k] => K (i + 1) ls (.int (nI k) :: st) S
    | [1, k] => K (i + 1) ls (.ref k :: st) S
    | [2] => K (i + 1) ls (.float 0 :: st) S
    | _ => False) := hv
  clear hv
  split at hw
  · have h3 : (Nat.beq (zmOwn M) 15 && (Nat.beq x 38 && Nat.beq _ 1)) = true := h3
    obtain ⟨a1, c2⟩ := zand h3
    obtain ⟨a2, a3⟩ := zand c2
    cases Nat.eq_of_beq_eq_true a2
    cases Nat.eq_of_beq_eq_true a3
    exact zs_getsC C hp hd (znx_spec h2) (Nat.eq_of_beq_eq_true a1) (hK _ _ _ _ hw).2.2
  · exact zs_gets C hp hd (znx_spec h2) (by exact h3) (zGS_lt (by exact h3)).1 (zGS_lt (by exact h3)).2 (hK _ _ _ _ hw).2.2
  · have h3 : (Nat.beq (zmOwn M) 15 && Nat.beq x 1053) = true := h3
    obtain ⟨a1, a2⟩ := zand h3
    cases Nat.eq_of_beq_eq_true a2
    exact zs_getsF C hp hd (znx_spec h2) (Nat.eq_of_beq_eq_true a1) (hK _ _ _ _ hw).2.2
  · exact hw.elim
theorem zt_iald (C : zCx p l R s m args meth c M cad S0 A) (hp : zpcOf M i = pc) (hd : decode (zmCode M) pc = .ok (.iaload, len)) (hck : zchk M i (pc, .iaload, len, r) = true) (hv : zv (.iaload) r i ls st S K)
    (hK : ∀ i1 l1 s1 S1, K i1 l1 s1 S1 → zu S1 - c0 ≤ R.cells ∧ zz S1 - z0 ≤ R.slots ∧ zGo p l e R s m args below meth c Q M cad tc D S0 A ws0 c0 z0 i1 l1 s1 S1) : zGo p l e R s m args below meth c Q M cad tc D S0 A ws0 c0 z0 i ls st S := by
  have hck : (Nat.beq len 1 && (znx M i pc 1 && (match (generalizing := false) r with
      | [t] => Nat.beq t 100 || (Nat.beq t 104 || Nat.beq t 105)
      | _ => false))) = true := hck
  obtain ⟨h1, h20⟩ := zand hck
  obtain ⟨h2, h3⟩ := zand h20
  clear h20
  obtain rfl : len = 1 := Nat.eq_of_beq_eq_true h1
  have hw : zald r i ls st S K := hv
  clear hv
  unfold zald at hw
  split at hw
  · have h3 : (Nat.beq _ 100 || (Nat.beq _ 104 || Nat.beq _ 105)) = true := h3
    rcases zor h3 with h | h
    · cases Nat.eq_of_beq_eq_true h
      exact zs_iald C hp hd (znx_spec h2) hw.1 hw.2.1 (hK _ _ _ _ hw.2.2).2.2
    · rcases zor h with h | h
      · cases Nat.eq_of_beq_eq_true h
        exact zs_tald C hp hd (znx_spec h2) hw.1 hw.2.1 (hK _ _ _ _ hw.2.2).2.2
      · cases Nat.eq_of_beq_eq_true h
        exact zs_sald C hp hd (znx_spec h2) hw.1 hw.2.1 (hK _ _ _ _ hw.2.2).2.2
  · exact hw.elim
theorem zt_bald (C : zCx p l R s m args meth c M cad S0 A) (hp : zpcOf M i = pc) (hd : decode (zmCode M) pc = .ok (.baload, len)) (hck : zchk M i (pc, .baload, len, r) = true) (hv : zv (.baload) r i ls st S K)
    (hK : ∀ i1 l1 s1 S1, K i1 l1 s1 S1 → zu S1 - c0 ≤ R.cells ∧ zz S1 - z0 ≤ R.slots ∧ zGo p l e R s m args below meth c Q M cad tc D S0 A ws0 c0 z0 i1 l1 s1 S1) : zGo p l e R s m args below meth c Q M cad tc D S0 A ws0 c0 z0 i ls st S := by
  have hck : (Nat.beq len 1 && (znx M i pc 1 && (match (generalizing := false) r with
      | [t] => Nat.beq t 102 || Nat.beq t 103
      | _ => false))) = true := hck
  obtain ⟨h1, h20⟩ := zand hck
  obtain ⟨h2, h3⟩ := zand h20
  clear h20
  obtain rfl : len = 1 := Nat.eq_of_beq_eq_true h1
  have hw : zald r i ls st S K := hv
  clear hv
  unfold zald at hw
  split at hw
  · have h3 : (Nat.beq _ 102 || Nat.beq _ 103) = true := h3
    rcases zor h3 with h | h
    · cases Nat.eq_of_beq_eq_true h
      exact zs_zald C hp hd (znx_spec h2) hw.1 hw.2.1 (hK _ _ _ _ hw.2.2).2.2
    · cases Nat.eq_of_beq_eq_true h
      exact zs_tbld C hp hd (znx_spec h2) hw.1 hw.2.1 (hK _ _ _ _ hw.2.2).2.2
  · exact hw.elim
theorem zt_lald (C : zCx p l R s m args meth c M cad S0 A) (hp : zpcOf M i = pc) (hd : decode (zmCode M) pc = .ok (.laload, len)) (hck : zchk M i (pc, .laload, len, r) = true) (hv : zv (.laload) r i ls st S K)
    (hK : ∀ i1 l1 s1 S1, K i1 l1 s1 S1 → zu S1 - c0 ≤ R.cells ∧ zz S1 - z0 ≤ R.slots ∧ zGo p l e R s m args below meth c Q M cad tc D S0 A ws0 c0 z0 i1 l1 s1 S1) : zGo p l e R s m args below meth c Q M cad tc D S0 A ws0 c0 z0 i ls st S := by
  have hck : (Nat.beq len 1 && znx M i pc 1) = true := hck
  obtain ⟨h1, h2⟩ := zand hck
  obtain rfl : len = 1 := Nat.eq_of_beq_eq_true h1
  have hw : (match (generalizing := false) st with
    | .int j :: .ref a :: t => zc S a = 101 ∧ vp_in j (zn S a) ∧ K (i + 1) ls (.long (zL S a j.toNatClampNeg) :: t) S
    | _ => False) := hv
  clear hv
  split at hw
  · exact zs_lald C hp hd (znx_spec h2) hw.1 hw.2.1 (hK _ _ _ _ hw.2.2).2.2
  · exact hw.elim
theorem zt_iast (C : zCx p l R s m args meth c M cad S0 A) (hp : zpcOf M i = pc) (hd : decode (zmCode M) pc = .ok (.iastore, len)) (hck : zchk M i (pc, .iastore, len, r) = true) (hv : zv (.iastore) r i ls st S K)
    (hK : ∀ i1 l1 s1 S1, K i1 l1 s1 S1 → zu S1 - c0 ≤ R.cells ∧ zz S1 - z0 ≤ R.slots ∧ zGo p l e R s m args below meth c Q M cad tc D S0 A ws0 c0 z0 i1 l1 s1 S1) : zGo p l e R s m args below meth c Q M cad tc D S0 A ws0 c0 z0 i ls st S := by
  have hck : (Nat.beq len 1 && znx M i pc 1) = true := hck
  obtain ⟨h1, h2⟩ := zand hck
  obtain rfl : len = 1 := Nat.eq_of_beq_eq_true h1
  have hw : (match (generalizing := false) st with
    | .int v :: .int j :: .ref a :: t => zc S a = 100 ∧ vp_in j (zn S a) ∧ K (i + 1) ls t (zsI S a j.toNatClampNeg v)
    | _ => False) := hv
  clear hv
  split at hw
  · exact zs_iast C hp hd (znx_spec h2) hw.1 hw.2.1 (hK _ _ _ _ hw.2.2).2.2
  · exact hw.elim
theorem zt_zast (C : zCx p l R s m args meth c M cad S0 A) (hp : zpcOf M i = pc) (hd : decode (zmCode M) pc = .ok (.bastore, len)) (hck : zchk M i (pc, .bastore, len, r) = true) (hv : zv (.bastore) r i ls st S K)
    (hK : ∀ i1 l1 s1 S1, K i1 l1 s1 S1 → zu S1 - c0 ≤ R.cells ∧ zz S1 - z0 ≤ R.slots ∧ zGo p l e R s m args below meth c Q M cad tc D S0 A ws0 c0 z0 i1 l1 s1 S1) : zGo p l e R s m args below meth c Q M cad tc D S0 A ws0 c0 z0 i ls st S := by
  have hck : (Nat.beq len 1 && znx M i pc 1) = true := hck
  obtain ⟨h1, h2⟩ := zand hck
  obtain rfl : len = 1 := Nat.eq_of_beq_eq_true h1
  have hw : (match (generalizing := false) st with
    | .int v :: .int j :: .ref a :: t => zc S a = 102 ∧ vp_in j (zn S a) ∧ K (i + 1) ls t (zsI S a j.toNatClampNeg (vp_nar .boolean v))
    | _ => False) := hv
  clear hv
  split at hw
  · exact zs_zast C hp hd (znx_spec h2) hw.1 hw.2.1 (hK _ _ _ _ hw.2.2).2.2
  · exact hw.elim
theorem zt_last (C : zCx p l R s m args meth c M cad S0 A) (hp : zpcOf M i = pc) (hd : decode (zmCode M) pc = .ok (.lastore, len)) (hck : zchk M i (pc, .lastore, len, r) = true) (hv : zv (.lastore) r i ls st S K)
    (hK : ∀ i1 l1 s1 S1, K i1 l1 s1 S1 → zu S1 - c0 ≤ R.cells ∧ zz S1 - z0 ≤ R.slots ∧ zGo p l e R s m args below meth c Q M cad tc D S0 A ws0 c0 z0 i1 l1 s1 S1) : zGo p l e R s m args below meth c Q M cad tc D S0 A ws0 c0 z0 i ls st S := by
  have hck : (Nat.beq len 1 && znx M i pc 1) = true := hck
  obtain ⟨h1, h2⟩ := zand hck
  obtain rfl : len = 1 := Nat.eq_of_beq_eq_true h1
  have hw : (match (generalizing := false) st with
    | .long v :: .int j :: .ref a :: t => zc S a = 101 ∧ vp_in j (zn S a) ∧ K (i + 1) ls t (zsL S a j.toNatClampNeg v)
    | _ => False) := hv
  clear hv
  split at hw
  · exact zs_last C hp hd (znx_spec h2) hw.1 hw.2.1 (hK _ _ _ _ hw.2.2).2.2
  · exact hw.elim
theorem zt_aald (C : zCx p l R s m args meth c M cad S0 A) (hp : zpcOf M i = pc) (hd : decode (zmCode M) pc = .ok (.aaload, len)) (hck : zchk M i (pc, .aaload, len, r) = true) (hv : zv (.aaload) r i ls st S K)
    (hK : ∀ i1 l1 s1 S1, K i1 l1 s1 S1 → zu S1 - c0 ≤ R.cells ∧ zz S1 - z0 ≤ R.slots ∧ zGo p l e R s m args below meth c Q M cad tc D S0 A ws0 c0 z0 i1 l1 s1 S1) : zGo p l e R s m args below meth c Q M cad tc D S0 A ws0 c0 z0 i ls st S := by
  have hck : (Nat.beq len 1 && (znx M i pc 1 && (match (generalizing := false) r with
      | [t] => Nat.beq t 113 || (Nat.beq t 115 || Nat.beq t 119)
      | _ => false))) = true := hck
  obtain ⟨h1, h20⟩ := zand hck
  obtain ⟨h2, h3⟩ := zand h20
  clear h20
  obtain rfl : len = 1 := Nat.eq_of_beq_eq_true h1
  have hw : (match (generalizing := false) r, st with
    | [tg], .int j :: .ref a :: t => zc S a = tg ∧ vp_in j (zn S a) ∧ (zR S a j.toNatClampNeg = none → K (i + 1) ls (.null :: t) S) ∧ ∀ q, zR S a j.toNatClampNeg = some q → K (i + 1) ls (.ref q :: t) S
    | _, _ => False) := hv
  clear hv
  split at hw
  · have h3 : (Nat.beq _ 113 || (Nat.beq _ 115 || Nat.beq _ 119)) = true := h3
    rcases zor h3 with h | h
    · cases Nat.eq_of_beq_eq_true h
      exact zs_aald (ti := 3) (Cn := RX3) C hp hd (znx_spec h2) (Or.inl rfl) rfl hw.1 hw.2.1 ⟨fun h => (hK _ _ _ _ (hw.2.2.1 h)).2.2, fun q h => (hK _ _ _ _ (hw.2.2.2 q h)).2.2⟩
    · rcases zor h with h | h
      · cases Nat.eq_of_beq_eq_true h
        exact zs_aald (ti := 4) (Cn := RX5) C hp hd (znx_spec h2) (Or.inr (Or.inl rfl)) rfl hw.1 hw.2.1 ⟨fun h => (hK _ _ _ _ (hw.2.2.1 h)).2.2, fun q h => (hK _ _ _ _ (hw.2.2.2 q h)).2.2⟩
      · cases Nat.eq_of_beq_eq_true h
        exact zs_aald (ti := 5) (Cn := RX9) C hp hd (znx_spec h2) (Or.inr (Or.inr rfl)) rfl hw.1 hw.2.1 ⟨fun h => (hK _ _ _ _ (hw.2.2.1 h)).2.2, fun q h => (hK _ _ _ _ (hw.2.2.2 q h)).2.2⟩
  · exact hw.elim
theorem zt_aast (C : zCx p l R s m args meth c M cad S0 A) (hp : zpcOf M i = pc) (hd : decode (zmCode M) pc = .ok (.aastore, len)) (hck : zchk M i (pc, .aastore, len, r) = true) (hv : zv (.aastore) r i ls st S K)
    (hK : ∀ i1 l1 s1 S1, K i1 l1 s1 S1 → zu S1 - c0 ≤ R.cells ∧ zz S1 - z0 ≤ R.slots ∧ zGo p l e R s m args below meth c Q M cad tc D S0 A ws0 c0 z0 i1 l1 s1 S1) : zGo p l e R s m args below meth c Q M cad tc D S0 A ws0 c0 z0 i ls st S := by
  have hck : (Nat.beq len 1 && (znx M i pc 1 && (match (generalizing := false) r with
      | [t, ci] => (Nat.beq t 113 || (Nat.beq t 115 || Nat.beq t 119)) && Nat.beq t (110 + ci)
      | _ => false))) = true := hck
  obtain ⟨h1, h20⟩ := zand hck
  obtain ⟨h2, h3⟩ := zand h20
  clear h20
  obtain rfl : len = 1 := Nat.eq_of_beq_eq_true h1
  have hw : (match (generalizing := false) r, st with
    | [tg, ci], .ref v :: .int j :: .ref a :: t => zc S a = tg ∧ zc S v = ci ∧ vp_in j (zn S a) ∧ K (i + 1) ls t (zsR S a j.toNatClampNeg (some v))
    | _, _ => False) := hv
  clear hv
  rcases r with _ | ⟨tg, _ | ⟨ci, _ | ⟨d, r⟩⟩⟩
  · exact hw.elim
  · exact hw.elim
  · have h3 : ((Nat.beq tg 113 || (Nat.beq tg 115 || Nat.beq tg 119)) && Nat.beq tg (110 + ci)) = true := h3
    obtain ⟨h4, h5⟩ := zand h3
    have e5 := Nat.eq_of_beq_eq_true h5
    split at hw
    · rename_i heq
      cases heq
      rcases zor h4 with h | h
      · have e6 := Nat.eq_of_beq_eq_true h
        obtain rfl : ci = 3 := by omega
        exact zs_aast (ti := 3) C hp hd (znx_spec h2) (by omega) (by subst e6; rfl) (by omega) hw.1 hw.2.1 hw.2.2.1 (hK _ _ _ _ hw.2.2.2).2.2
      · rcases zor h with h | h
        · have e6 := Nat.eq_of_beq_eq_true h
          obtain rfl : ci = 5 := by omega
          exact zs_aast (ti := 4) C hp hd (znx_spec h2) (by omega) (by subst e6; rfl) (by omega) hw.1 hw.2.1 hw.2.2.1 (hK _ _ _ _ hw.2.2.2).2.2
        · have e6 := Nat.eq_of_beq_eq_true h
          obtain rfl : ci = 9 := by omega
          exact zs_aast (ti := 5) C hp hd (znx_spec h2) (by omega) (by subst e6; rfl) (by omega) hw.1 hw.2.1 hw.2.2.1 (hK _ _ _ _ hw.2.2.2).2.2
    · exact hw.elim
  · exact hw.elim
theorem zt_alen (C : zCx p l R s m args meth c M cad S0 A) (hp : zpcOf M i = pc) (hd : decode (zmCode M) pc = .ok (.arraylength, len)) (hck : zchk M i (pc, .arraylength, len, r) = true) (hv : zv (.arraylength) r i ls st S K)
    (hK : ∀ i1 l1 s1 S1, K i1 l1 s1 S1 → zu S1 - c0 ≤ R.cells ∧ zz S1 - z0 ≤ R.slots ∧ zGo p l e R s m args below meth c Q M cad tc D S0 A ws0 c0 z0 i1 l1 s1 S1) : zGo p l e R s m args below meth c Q M cad tc D S0 A ws0 c0 z0 i ls st S := by
  have hck : (Nat.beq len 1 && (znx M i pc 1 && (match (generalizing := false) r with
      | [t] => Nat.beq t 100 || (Nat.beq t 103 || (Nat.beq t 104 || Nat.beq t 105))
      | _ => false))) = true := hck
  obtain ⟨h1, h20⟩ := zand hck
  obtain ⟨h2, h3⟩ := zand h20
  clear h20
  obtain rfl : len = 1 := Nat.eq_of_beq_eq_true h1
  have hw : (match (generalizing := false) r, st with
    | [tg], .ref a :: t => zc S a = tg ∧ K (i + 1) ls (.int (nI (zn S a)) :: t) S
    | _, _ => False) := hv
  clear hv
  split at hw
  · have h3 : (Nat.beq _ 100 || (Nat.beq _ 103 || (Nat.beq _ 104 || Nat.beq _ 105))) = true := h3
    rcases zor h3 with h | h
    · cases Nat.eq_of_beq_eq_true h
      exact zs_ilen C hp hd (znx_spec h2) hw.1 (hK _ _ _ _ hw.2).2.2
    · rcases zor h with h | h
      · cases Nat.eq_of_beq_eq_true h
        exact zs_blen C hp hd (znx_spec h2) hw.1 (hK _ _ _ _ hw.2).2.2
      · rcases zor h with h | h
        · cases Nat.eq_of_beq_eq_true h
          exact zs_tlen C hp hd (znx_spec h2) hw.1 (hK _ _ _ _ hw.2).2.2
        · cases Nat.eq_of_beq_eq_true h
          exact zs_slen C hp hd (znx_spec h2) hw.1 (hK _ _ _ _ hw.2).2.2
  · exact hw.elim
theorem zt_new {x ci n : Nat} (C : zCx p l R s m args meth c M cad S0 A) (hp : zpcOf M i = pc) (hd : decode (zmCode M) pc = .ok (.new x, len)) (hck : zchk M i (pc, .new x, len, [ci, n]) = true) (hv : zv (.new x) [ci, n] i ls st S K)
    (hK : ∀ i1 l1 s1 S1, K i1 l1 s1 S1 → zu S1 - c0 ≤ R.cells ∧ zz S1 - z0 ≤ R.slots ∧ zGo p l e R s m args below meth c Q M cad tc D S0 A ws0 c0 z0 i1 l1 s1 S1) : zGo p l e R s m args below meth c Q M cad tc D S0 A ws0 c0 z0 i ls st S := by
  have hck : (Nat.beq len 3 && (znx M i pc 3 && (Nat.blt ci 13 && (Nat.beq n (zfn ci) && zcl? (zmOwn M) x ci)))) = true := hck
  obtain ⟨h1, c2⟩ := zand hck
  obtain ⟨h2, c3⟩ := zand c2
  obtain ⟨h3, c4⟩ := zand c3
  obtain ⟨h4, h5⟩ := zand c4
  obtain rfl : len = 3 := Nat.eq_of_beq_eq_true h1
  obtain rfl : n = zfn ci := Nat.eq_of_beq_eq_true h4
  have hw : K (i + 1) ls (.ref (zx S) :: st) (zNew S ci 0 (zfn ci) (fun _ => 0)) := hv
  obtain ⟨b1, b2, b3⟩ := hK _ _ _ _ hw
  exact zs_new C hp hd (znx_spec h2) (Nat.le_of_ble_eq_true h3) h5 b1 b2 b3
theorem zt_newa {at9 : ArrayType} (C : zCx p l R s m args meth c M cad S0 A) (hp : zpcOf M i = pc) (hd : decode (zmCode M) pc = .ok (.newarray at9, len)) (hck : zchk M i (pc, .newarray at9, len, r) = true) (hv : zv (.newarray at9) r i ls st S K)
    (hK : ∀ i1 l1 s1 S1, K i1 l1 s1 S1 → zu S1 - c0 ≤ R.cells ∧ zz S1 - z0 ≤ R.slots ∧ zGo p l e R s m args below meth c Q M cad tc D S0 A ws0 c0 z0 i1 l1 s1 S1) : zGo p l e R s m args below meth c Q M cad tc D S0 A ws0 c0 z0 i ls st S := by
  have hck : (Nat.beq len 2 && (znx M i pc 2 && (match (generalizing := false) r, at9 with
      | [100], .int => true
      | [101], .long => true
      | [102], .boolean => true
      | _, _ => false))) = true := hck
  obtain ⟨h1, h20⟩ := zand hck
  obtain ⟨h2, h3⟩ := zand h20
  clear h20
  obtain rfl : len = 2 := Nat.eq_of_beq_eq_true h1
  have hw : (match (generalizing := false) r, st with
    | [tg], .int n :: t => ¬ n < 0 ∧ n.toNatClampNeg ≤ 60000000 ∧ K (i + 1) ls (.ref (zx S) :: t) (zNew S tg n.toNatClampNeg n.toNatClampNeg (fun _ => 0))
    | _, _ => False) := hv
  clear hv
  split at hw
  · obtain ⟨a1, a2, a3⟩ := hw
    obtain ⟨b1, b2, b3⟩ := hK _ _ _ _ a3
    split at h3
    · rename_i heq _
      cases heq
      exact zs_newa_int C hp hd (znx_spec h2) a1 a2 b1 b2 b3
    · rename_i heq _
      cases heq
      exact zs_newa_long C hp hd (znx_spec h2) a1 a2 b1 b2 b3
    · rename_i heq _
      cases heq
      exact zs_newa_bool C hp hd (znx_spec h2) a1 a2 b1 b2 b3
    · cases h3
  · exact hw.elim
theorem zt_anew {x : Nat} (C : zCx p l R s m args meth c M cad S0 A) (hp : zpcOf M i = pc) (hd : decode (zmCode M) pc = .ok (.anewarray x, len)) (hck : zchk M i (pc, .anewarray x, len, r) = true) (hv : zv (.anewarray x) r i ls st S K)
    (hK : ∀ i1 l1 s1 S1, K i1 l1 s1 S1 → zu S1 - c0 ≤ R.cells ∧ zz S1 - z0 ≤ R.slots ∧ zGo p l e R s m args below meth c Q M cad tc D S0 A ws0 c0 z0 i1 l1 s1 S1) : zGo p l e R s m args below meth c Q M cad tc D S0 A ws0 c0 z0 i ls st S := by
  have hck : (Nat.beq len 3 && (znx M i pc 3 && (match (generalizing := false) r with
      | [t] => (Nat.beq t 113 || (Nat.beq t 115 || Nat.beq t 119)) && zcl? (zmOwn M) x (t - 110)
      | _ => false))) = true := hck
  obtain ⟨h1, h20⟩ := zand hck
  obtain ⟨h2, h3⟩ := zand h20
  clear h20
  obtain rfl : len = 3 := Nat.eq_of_beq_eq_true h1
  have hw : (match (generalizing := false) r, st with
    | [tg], .int n :: t => ¬ n < 0 ∧ n.toNatClampNeg ≤ 60000000 ∧ K (i + 1) ls (.ref (zx S) :: t) (zNew S tg n.toNatClampNeg n.toNatClampNeg (fun _ => 0))
    | _, _ => False) := hv
  clear hv
  rcases r with _ | ⟨tg, _ | ⟨d, r⟩⟩
  · exact hw.elim
  · have h3 : ((Nat.beq tg 113 || (Nat.beq tg 115 || Nat.beq tg 119)) && zcl? (zmOwn M) x (tg - 110)) = true := h3
    obtain ⟨h4, h5⟩ := zand h3
    split at hw
    · rename_i heq
      cases heq
      obtain ⟨a1, a2, a3⟩ := hw
      obtain ⟨b1, b2, b3⟩ := hK _ _ _ _ a3
      rcases zor h4 with h | h
      · cases Nat.eq_of_beq_eq_true h
        exact zs_anew_State C hp hd (znx_spec h2) h5 a1 a2 b1 b2 b3
      · rcases zor h with h | h
        · cases Nat.eq_of_beq_eq_true h
          exact zs_anew_Task C hp hd (znx_spec h2) h5 a1 a2 b1 b2 b3
        · cases Nat.eq_of_beq_eq_true h
          exact zs_anew_Way C hp hd (znx_spec h2) h5 a1 a2 b1 b2 b3
    · exact hw.elim
  · exact hw.elim
theorem zt_cast {x : Nat} (C : zCx p l R s m args meth c M cad S0 A) (hp : zpcOf M i = pc) (hd : decode (zmCode M) pc = .ok (.checkcast x, len)) (hck : zchk M i (pc, .checkcast x, len, r) = true) (hv : zv (.checkcast x) r i ls st S K)
    (hK : ∀ i1 l1 s1 S1, K i1 l1 s1 S1 → zu S1 - c0 ≤ R.cells ∧ zz S1 - z0 ≤ R.slots ∧ zGo p l e R s m args below meth c Q M cad tc D S0 A ws0 c0 z0 i1 l1 s1 S1) : zGo p l e R s m args below meth c Q M cad tc D S0 A ws0 c0 z0 i ls st S := by
  have hck : (Nat.beq len 3 && (znx M i pc 3 && zcl? (zmOwn M) x 2000)) = true := hck
  obtain ⟨h1, h20⟩ := zand hck
  obtain ⟨h2, h3⟩ := zand h20
  clear h20
  obtain rfl : len = 3 := Nat.eq_of_beq_eq_true h1
  have hw : (match (generalizing := false) st with
    | .ref a :: t => zc S a = 100 ∧ K (i + 1) ls (.ref a :: t) S
    | _ => False) := hv
  clear hv
  split at hw
  · exact zs_cast C hp hd (znx_spec h2) h3 hw.1 (hK _ _ _ _ hw.2).2.2
  · exact hw.elim
theorem zt_objinit {x : Nat} (C : zCx p l R s m args meth c M cad S0 A) (hp : zpcOf M i = pc) (hd : decode (zmCode M) pc = .ok (.invokespecial x, len)) (hck : zchk M i (pc, .invokespecial x, len, [0]) = true) (hv : zv (.invokespecial x) [0] i ls st S K)
    (hK : ∀ i1 l1 s1 S1, K i1 l1 s1 S1 → zu S1 - c0 ≤ R.cells ∧ zz S1 - z0 ≤ R.slots ∧ zGo p l e R s m args below meth c Q M cad tc D S0 A ws0 c0 z0 i1 l1 s1 S1) : zGo p l e R s m args below meth c Q M cad tc D S0 A ws0 c0 z0 i ls st S := by
  have hck : (Nat.beq len 3 && (znx M i pc 3 && zP_objinit.any (fun q => q.2 == (zmOwn M, x)))) = true := hck
  obtain ⟨h1, h20⟩ := zand hck
  obtain ⟨h2, h3⟩ := zand h20
  obtain rfl : len = 3 := Nat.eq_of_beq_eq_true h1
  have hw : (match (generalizing := false) ([0] : List Nat), st with
    | [0], .ref _ :: t => (match Nat.ble t.length 40 with
      | true => K (i + 1) ls t S
      | false => False)
    | _, _ => False) := hv
  clear hv
  split at hw
  · split at hw
    · rename_i hb9
      exact zs_objinit C hp hd (znx_spec h2) h3 (Nat.le_of_ble_eq_true hb9) (hK _ _ _ _ hw).2.2
    · exact hw.elim
  · exact hw.elim
theorem zt_copy {x t : Nat} (ht : t = 100 ∨ t = 104) (C : zCx p l R s m args meth c M cad S0 A) (hp : zpcOf M i = pc) (hd : decode (zmCode M) pc = .ok (.invokestatic x, len)) (hck : zchk M i (pc, .invokestatic x, len, [t]) = true) (hv : zv (.invokestatic x) [t] i ls st S K)
    (hK : ∀ i1 l1 s1 S1, K i1 l1 s1 S1 → zu S1 - c0 ≤ R.cells ∧ zz S1 - z0 ≤ R.slots ∧ zGo p l e R s m args below meth c Q M cad tc D S0 A ws0 c0 z0 i1 l1 s1 S1) : zGo p l e R s m args below meth c Q M cad tc D S0 A ws0 c0 z0 i ls st S := by
  have hck : (Nat.beq len 3 && (znx M i pc 3 && (zP_copy.any (fun q => q.2 == (zmOwn M, x)) && (Nat.beq t 100 || Nat.beq t 104)))) = true := by
    rcases ht with rfl | rfl <;> exact hck
  obtain ⟨h1, h20⟩ := zand hck
  obtain ⟨h2, h30⟩ := zand h20
  obtain ⟨h3, h4⟩ := zand h30
  obtain rfl : len = 3 := Nat.eq_of_beq_eq_true h1
  have hw : (match (generalizing := false) ([t] : List Nat), st with
    | [201], .int y :: .int x :: t => (match Nat.ble t.length 40 with
      | true => K (i + 1) ls (.int (if x < y then y else x) :: t) S
      | false => False)
    | [202], .int y :: .int x :: t => (match Nat.ble t.length 40 with
      | true => K (i + 1) ls (.int (if y < x then y else x) :: t) S
      | false => False)
    | [203], .long y :: .long x :: t => (match Nat.ble t.length 40 with
      | true => K (i + 1) ls (.long (if y < x then y else x) :: t) S
      | false => False)
    | [tg], .int n :: .int dp :: .ref b :: .int sp :: .ref a :: u => (match Nat.ble u.length 40 with
      | true => zc S a = tg ∧ zc S b = 100 ∧ ¬ sp < 0 ∧ ¬ dp < 0 ∧ ¬ n < 0 ∧ sp.toNatClampNeg + n.toNatClampNeg ≤ zn S a ∧ dp.toNatClampNeg + n.toNatClampNeg ≤ zn S b ∧
        K (i + 1) ls u (zwI S b (va_cpy (zI S a) (zI S b) sp.toNatClampNeg dp.toNatClampNeg n.toNatClampNeg))
      | false => False)
    | _, _ => False) := hv
  clear hv
  split at hw
  · rename_i heq
    cases heq
    omega
  · rename_i heq
    cases heq
    omega
  · rename_i heq
    cases heq
    omega
  · rename_i heq
    cases heq
    split at hw
    · rename_i hb9
      obtain ⟨d1, d2, d3, d4, d5, d6, d7, d8⟩ := hw
      rcases zor h4 with h | h
      · cases Nat.eq_of_beq_eq_true h
        exact zs_copy C hp hd (znx_spec h2) h3 (Nat.le_of_ble_eq_true hb9) d1 d2 d3 d4 d5 d6 d7 (hK _ _ _ _ d8).2.2
      · cases Nat.eq_of_beq_eq_true h
        exact zs_copyt C hp hd (znx_spec h2) h3 (Nat.le_of_ble_eq_true hb9) d1 d2 d3 d4 d5 d6 d7 (hK _ _ _ _ d8).2.2
    · exact hw.elim
  · exact hw.elim
theorem zt_clone {x t : Nat} (C : zCx p l R s m args meth c M cad S0 A) (hp : zpcOf M i = pc) (hd : decode (zmCode M) pc = .ok (.invokevirtual x, len)) (hck : zchk M i (pc, .invokevirtual x, len, [t]) = true) (hv : zv (.invokevirtual x) [t] i ls st S K)
    (hK : ∀ i1 l1 s1 S1, K i1 l1 s1 S1 → zu S1 - c0 ≤ R.cells ∧ zz S1 - z0 ≤ R.slots ∧ zGo p l e R s m args below meth c Q M cad tc D S0 A ws0 c0 z0 i1 l1 s1 S1) : zGo p l e R s m args below meth c Q M cad tc D S0 A ws0 c0 z0 i ls st S := by
  have hck : (Nat.beq len 3 && (znx M i pc 3 && (zP_clone.any (fun q => q.2 == (zmOwn M, x)) && (Nat.beq t 100 || Nat.beq t 104)))) = true := hck
  obtain ⟨h1, h20⟩ := zand hck
  obtain ⟨h2, h30⟩ := zand h20
  obtain ⟨h3, h4⟩ := zand h30
  obtain rfl : len = 3 := Nat.eq_of_beq_eq_true h1
  have hw : (match (generalizing := false) ([t] : List Nat), st with
    | [tg], .ref a :: u => (match Nat.ble u.length 40 with
      | true => zc S a = tg ∧ K (i + 1) ls (.ref (zx S) :: u) (zNew S 100 (zn S a) (zn S a) (zI S a))
      | false => False)
    | _, _ => False) := hv
  clear hv
  split at hw
  · rename_i heq
    cases heq
    split at hw
    · rename_i hb9
      obtain ⟨d1, d2⟩ := hw
      obtain ⟨b1, b2, b3⟩ := hK _ _ _ _ d2
      rcases zor h4 with h | h
      · cases Nat.eq_of_beq_eq_true h
        exact zs_clone C hp hd (znx_spec h2) h3 (Nat.le_of_ble_eq_true hb9) d1 b1 b2 b3
      · cases Nat.eq_of_beq_eq_true h
        exact zs_clonet C hp hd (znx_spec h2) h3 (Nat.le_of_ble_eq_true hb9) d1 b1 b2 b3
    · exact hw.elim
  · exact hw.elim
end ZPlain3
