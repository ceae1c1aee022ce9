/-! Branches, switches and the heap's instructions, out of the check and the predicate zv; all together -/
theorem zsw_imp {x : Int32} {K K' : Nat → Prop} : ∀ (ts : List Nat) (lo : Nat), zsw x K lo ts → (∀ t, K t → K' t) → zsw x K' lo ts
  | [], _, _, _ => trivial
  | _ :: ts, lo, h, hK => ⟨fun e => hK _ (h.1 e), zsw_imp ts (lo + 1) h.2 hK⟩
section ZPlain2
variable {p : Program} {l : Launch} {e : Env} {R : Room} {s : State} {m : MethodId} {args : Array Value} {below : List Frame} {meth : Method} {c : Code} {Q : State → Prop} {M : ZMt} {cad : Nat → Nat} {tc : Nat → ClassId} {D : va_G} {S0 : ZSt} {A : Nat → Prop} {ws0 : va_W} {c0 z0 : Nat}
variable {i pc len : Nat} {r : List Nat} {ls : ZLo} {st : List Value} {S : ZSt} {K : ZNx}
theorem zt_dup (C : zCx p l R s m args meth c M cad S0 A) (hp : zpcOf M i = pc) (hd : decode (zmCode M) pc = .ok (.dup, len)) (hck : zchk M i (pc, .dup, len, r) = true) (hv : zv (.dup) r i ls st S K)
    (hK : ∀ i1 l1 s1 S1, K i1 l1 s1 S1 → zu S1 - c0 ≤ R.cells ∧ zz S1 - z0 ≤ R.slots ∧ zGo p l e R s m args below meth c Q M cad tc D S0 A ws0 c0 z0 i1 l1 s1 S1) : zGo p l e R s m args below meth c Q M cad tc D S0 A ws0 c0 z0 i ls st S := by
  have hck : (Nat.beq len 1 && znx M i pc 1) = true := hck
  obtain ⟨h1, h2⟩ := zand hck
  obtain rfl : len = 1 := Nat.eq_of_beq_eq_true h1
  have hv : (match (generalizing := false) st with
    | .long _ :: _ => False
    | .double _ :: _ => False
    | v :: t => K (i + 1) ls (v :: v :: t) S
    | _ => False) := hv
  split at hv
  · exact hv.elim
  · exact hv.elim
  · rename_i h7 h8 h9
    exact zs_dup C hp hd (znx_spec h2) (fun x e => h7 x e) (hK _ _ _ _ hv).2.2
  · exact hv.elim
theorem zt_icmp {cn : Jvm.ClassFile.Cond} {off : Int} (C : zCx p l R s m args meth c M cad S0 A) (hp : zpcOf M i = pc) (hd : decode (zmCode M) pc = .ok (.if_icmp cn off, len)) (hck : zchk M i (pc, .if_icmp cn off, len, r) = true) (hv : zv (.if_icmp cn off) r i ls st S K)
    (hK : ∀ i1 l1 s1 S1, K i1 l1 s1 S1 → zu S1 - c0 ≤ R.cells ∧ zz S1 - z0 ≤ R.slots ∧ zGo p l e R s m args below meth c Q M cad tc D S0 A ws0 c0 z0 i1 l1 s1 S1) : zGo p l e R s m args below meth c Q M cad tc D S0 A ws0 c0 z0 i ls st S := by
  have hck : (Nat.beq len 3 && (znx M i pc 3 && (match (generalizing := false) r with
      | [t] => ztg M pc t off
      | _ => false))) = true := hck
  obtain ⟨h1, h20⟩ := zand hck
  obtain ⟨h2, h3⟩ := zand h20
  clear h20
  obtain rfl : len = 3 := Nat.eq_of_beq_eq_true h1
  have hv : (match (generalizing := false) r, st with
    | [tg], .int y :: .int x :: t => (zcnd cn x y → K tg ls t S) ∧ (¬ zcnd cn x y → K (i + 1) ls t S)
    | _, _ => False) := hv
  split at hv
  · cases cn
    · exact zs_icmp_eq C hp hd (znx_spec h2) (ztg_spec (by exact h3)) ⟨fun h => (hK _ _ _ _ (hv.1 h)).2.2, fun h => (hK _ _ _ _ (hv.2 h)).2.2⟩
    · exact zs_icmp_ne C hp hd (znx_spec h2) (ztg_spec (by exact h3)) ⟨fun h => (hK _ _ _ _ (hv.1 h)).2.2, fun h => (hK _ _ _ _ (hv.2 h)).2.2⟩
    · exact zs_icmp_lt C hp hd (znx_spec h2) (ztg_spec (by exact h3)) ⟨fun h => (hK _ _ _ _ (hv.1 h)).2.2, fun h => (hK _ _ _ _ (hv.2 h)).2.2⟩
    · exact zs_icmp_ge C hp hd (znx_spec h2) (ztg_spec (by exact h3)) ⟨fun h => (hK _ _ _ _ (hv.1 h)).2.2, fun h => (hK _ _ _ _ (hv.2 h)).2.2⟩
    · exact zs_icmp_gt C hp hd (znx_spec h2) (ztg_spec (by exact h3)) ⟨fun h => (hK _ _ _ _ (hv.1 h)).2.2, fun h => (hK _ _ _ _ (hv.2 h)).2.2⟩
    · exact zs_icmp_le C hp hd (znx_spec h2) (ztg_spec (by exact h3)) ⟨fun h => (hK _ _ _ _ (hv.1 h)).2.2, fun h => (hK _ _ _ _ (hv.2 h)).2.2⟩
  · exact hv.elim
theorem zt_if {cn : Jvm.ClassFile.Cond} {off : Int} (C : zCx p l R s m args meth c M cad S0 A) (hp : zpcOf M i = pc) (hd : decode (zmCode M) pc = .ok (.ifCond cn off, len)) (hck : zchk M i (pc, .ifCond cn off, len, r) = true) (hv : zv (.ifCond cn off) r i ls st S K)
    (hK : ∀ i1 l1 s1 S1, K i1 l1 s1 S1 → zu S1 - c0 ≤ R.cells ∧ zz S1 - z0 ≤ R.slots ∧ zGo p l e R s m args below meth c Q M cad tc D S0 A ws0 c0 z0 i1 l1 s1 S1) : zGo p l e R s m args below meth c Q M cad tc D S0 A ws0 c0 z0 i ls st S := by
  have hck : (Nat.beq len 3 && (znx M i pc 3 && (match (generalizing := false) r with
      | [t] => ztg M pc t off
      | _ => false))) = true := hck
  obtain ⟨h1, h20⟩ := zand hck
  obtain ⟨h2, h3⟩ := zand h20
  clear h20
  obtain rfl : len = 3 := Nat.eq_of_beq_eq_true h1
  have hv : (match (generalizing := false) r, st with
    | [tg], .int x :: t => (zcnd cn x 0 → K tg ls t S) ∧ (¬ zcnd cn x 0 → K (i + 1) ls t S)
    | _, _ => False) := hv
  split at hv
  · cases cn
    · exact zs_if_eq C hp hd (znx_spec h2) (ztg_spec (by exact h3)) ⟨fun h => (hK _ _ _ _ (hv.1 h)).2.2, fun h => (hK _ _ _ _ (hv.2 h)).2.2⟩
    · exact zs_if_ne C hp hd (znx_spec h2) (ztg_spec (by exact h3)) ⟨fun h => (hK _ _ _ _ (hv.1 h)).2.2, fun h => (hK _ _ _ _ (hv.2 h)).2.2⟩
    · exact zs_if_lt C hp hd (znx_spec h2) (ztg_spec (by exact h3)) ⟨fun h => (hK _ _ _ _ (hv.1 h)).2.2, fun h => (hK _ _ _ _ (hv.2 h)).2.2⟩
    · exact zs_if_ge C hp hd (znx_spec h2) (ztg_spec (by exact h3)) ⟨fun h => (hK _ _ _ _ (hv.1 h)).2.2, fun h => (hK _ _ _ _ (hv.2 h)).2.2⟩
    · exact zs_if_gt C hp hd (znx_spec h2) (ztg_spec (by exact h3)) ⟨fun h => (hK _ _ _ _ (hv.1 h)).2.2, fun h => (hK _ _ _ _ (hv.2 h)).2.2⟩
    · exact zs_if_le C hp hd (znx_spec h2) (ztg_spec (by exact h3)) ⟨fun h => (hK _ _ _ _ (hv.1 h)).2.2, fun h => (hK _ _ _ _ (hv.2 h)).2.2⟩
  · exact hv.elim
theorem zt_nonnull {off : Int} (C : zCx p l R s m args meth c M cad S0 A) (hp : zpcOf M i = pc) (hd : decode (zmCode M) pc = .ok (.ifnonnull off, len)) (hck : zchk M i (pc, .ifnonnull off, len, r) = true) (hv : zv (.ifnonnull off) r i ls st S K)
    (hK : ∀ i1 l1 s1 S1, K i1 l1 s1 S1 → zu S1 - c0 ≤ R.cells ∧ zz S1 - z0 ≤ R.slots ∧ zGo p l e R s m args below meth c Q M cad tc D S0 A ws0 c0 z0 i1 l1 s1 S1) : zGo p l e R s m args below meth c Q M cad tc D S0 A ws0 c0 z0 i ls st S := by
  have hck : (Nat.beq len 3 && (znx M i pc 3 && (match (generalizing := false) r with
      | [t] => ztg M pc t off
      | _ => false))) = true := hck
  obtain ⟨h1, h20⟩ := zand hck
  obtain ⟨h2, h3⟩ := zand h20
  clear h20
  obtain rfl : len = 3 := Nat.eq_of_beq_eq_true h1
  have hv : (match (generalizing := false) r, st with
    | [tg], .ref _ :: t => K tg ls t S
    | [_], .null :: t => K (i + 1) ls t S
    | _, _ => False) := hv
  split at hv
  · exact zs_nonnull C hp hd (ztg_spec (by exact h3)) (hK _ _ _ _ hv).2.2
  · exact zs_nonnullN C hp hd (znx_spec h2) (hK _ _ _ _ hv).2.2
  · exact hv.elim
theorem zt_goto {off : Int} (C : zCx p l R s m args meth c M cad S0 A) (hp : zpcOf M i = pc) (hd : decode (zmCode M) pc = .ok (.goto off, len)) (hck : zchk M i (pc, .goto off, len, r) = true) (hv : zv (.goto off) r i ls st S K)
    (hK : ∀ i1 l1 s1 S1, K i1 l1 s1 S1 → zu S1 - c0 ≤ R.cells ∧ zz S1 - z0 ≤ R.slots ∧ zGo p l e R s m args below meth c Q M cad tc D S0 A ws0 c0 z0 i1 l1 s1 S1) : zGo p l e R s m args below meth c Q M cad tc D S0 A ws0 c0 z0 i ls st S := by
  have hck : (Nat.beq len 3 && (match (generalizing := false) r with
      | [t] => ztg M pc t off
      | _ => false)) = true := hck
  obtain ⟨h1, h3⟩ := zand hck
  obtain rfl : len = 3 := Nat.eq_of_beq_eq_true h1
  have hv : (match (generalizing := false) r with
    | [tg] => K tg ls st S
    | _ => False) := hv
  split at hv
  · exact zs_goto C hp hd (ztg_spec (by exact h3)) (hK _ _ _ _ hv).2.2
  · exact hv.elim
theorem zt_switch {dflt lo hi : Int} {offs : Array Int} (C : zCx p l R s m args meth c M cad S0 A) (hp : zpcOf M i = pc) (hd : decode (zmCode M) pc = .ok (.tableswitch dflt lo hi offs, len)) (hck : zchk M i (pc, .tableswitch dflt lo hi offs, len, r) = true) (hv : zv (.tableswitch dflt lo hi offs) r i ls st S K)
    (hK : ∀ i1 l1 s1 S1, K i1 l1 s1 S1 → zu S1 - c0 ≤ R.cells ∧ zz S1 - z0 ≤ R.slots ∧ zGo p l e R s m args below meth c Q M cad tc D S0 A ws0 c0 z0 i1 l1 s1 S1) : zGo p l e R s m args below meth c Q M cad tc D S0 A ws0 c0 z0 i ls st S := by
  have hck : (match (generalizing := false) r with
      | lo' :: dt :: ts => decide (lo = (lo' : Int)) && (decide (hi + 1 = (lo' : Int) + ts.length) && (ztg M pc dt dflt && ztgs M pc ts offs.toList))
      | _ => false) = true := hck
  have hv : (match (generalizing := false) r, st with
    | lo' :: dt :: ts, .int x :: t => (match Nat.ble (lo' + ts.length) 4096 with
      | true => zsw x (fun tg => K tg ls t S) lo' ts ∧ (x.toInt < (lo' : Int) ∨ (lo' : Int) + ts.length ≤ x.toInt → K dt ls t S)
      | false => False)
    | _, _ => False) := hv
  rcases r with _ | ⟨lo', _ | ⟨dt, ts⟩⟩
  · exact hv.elim
  · exact hv.elim
  rcases st with _ | ⟨v, t⟩
  · exact hv.elim
  cases v with
  | int x =>
    have hck : (decide (lo = (lo' : Int)) && (decide (hi + 1 = (lo' : Int) + ts.length) && (ztg M pc dt dflt && ztgs M pc ts offs.toList))) = true := hck
    obtain ⟨h1, h20⟩ := zand hck
    obtain ⟨h2, h30⟩ := zand h20
    obtain ⟨h3, h4⟩ := zand h30
    have hv : (match (generalizing := false) Nat.ble (lo' + ts.length) 4096 with
      | true => zsw x (fun tg => K tg ls t S) lo' ts ∧ (x.toInt < (lo' : Int) ∨ (lo' : Int) + ts.length ≤ x.toInt → K dt ls t S)
      | false => False) := hv
    split at hv
    · rename_i hbl
      refine zs_switch C hp hd (of_decide_eq_true h1) (of_decide_eq_true h2) h3 h4 (Nat.le_of_ble_eq_true hbl) ⟨?_, fun h => (hK _ _ _ _ (hv.2 h)).2.2⟩
      exact zsw_imp ts lo' hv.1 (fun tg h => (hK _ _ _ _ h).2.2)
    · exact hv.elim
  | _ => exact hv.elim
theorem zt_get {x : Nat} (C : zCx p l R s m args meth c M cad S0 A) (hp : zpcOf M i = pc) (hd : decode (zmCode M) pc = .ok (.getfield x, len)) (hck : zchk M i (pc, .getfield x, len, r) = true) (hv : zv (.getfield x) r i ls st S K)
    (hK : ∀ i1 l1 s1 S1, K i1 l1 s1 S1 → zu S1 - c0 ≤ R.cells ∧ zz S1 - z0 ≤ R.slots ∧ zGo p l e R s m args below meth c Q M cad tc D S0 A ws0 c0 z0 i1 l1 s1 S1) : zGo p l e R s m args below meth c Q M cad tc D S0 A ws0 c0 z0 i ls st S := by
  have hck : (Nat.beq len 3 && (znx M i pc 3 && (match (generalizing := false) r with
      | [15, k, ty] => Nat.beq (zmOwn M) 15 && ((Nat.beq x 9 && (Nat.beq k 0 && Nat.beq ty 2)) || (Nat.beq x 15 && (Nat.beq k 1 && Nat.beq ty 0)))
      | [ci, k, ty] => Nat.blt ci 13 && (Nat.blt k (zfn ci) && (zFL.any (fun q => q.2 == (zmOwn M, x, ci, k)) && (Nat.beq (zfk (zfty ci k)) ty || (Nat.beq (zfk (zfty ci k)) 3 && Nat.beq ty 0))))
      | _ => false))) = true := hck
  obtain ⟨h1, h20⟩ := zand hck
  obtain ⟨h2, h3⟩ := zand h20
  clear h20
  obtain rfl : len = 3 := Nat.eq_of_beq_eq_true h1
  have hw : zget r i ls st S K := hv
  clear hv
  have hr : ∃ ci k0 ty, r = [ci, k0, ty] := by
    unfold zget at hw
    split at hw
    · exact ⟨_, _, _, rfl⟩
    · exact ⟨_, _, _, rfl⟩
    · exact ⟨_, _, _, rfl⟩
    · exact hw.elim
  obtain ⟨ci, k0, ty, rfl⟩ := hr
  by_cases hci : ci = 15
  · subst hci
    have h3 : (Nat.beq (zmOwn M) 15 && ((Nat.beq x 9 && (Nat.beq k0 0 && Nat.beq ty 2)) || (Nat.beq x 15 && (Nat.beq k0 1 && Nat.beq ty 0)))) = true := h3
    obtain ⟨h4, h5⟩ := zand h3
    have ho := Nat.eq_of_beq_eq_true h4
    rcases zor h5 with h5 | h5
    · obtain ⟨a1, a2⟩ := zand h5
      obtain ⟨a2, a3⟩ := zand a2
      cases Nat.eq_of_beq_eq_true a1
      cases Nat.eq_of_beq_eq_true a2
      cases Nat.eq_of_beq_eq_true a3
      unfold zget at hw
      split at hw
      · rename_i heq; cases heq
      · rename_i heq; cases heq
      · rename_i heq
        cases heq
        obtain ⟨a4, q, a5, a6⟩ := hw
        exact zs_strval C hp hd (znx_spec h2) ho a4 a5 (hK _ _ _ _ a6).2.2
      · exact hw.elim
    · obtain ⟨a1, a2⟩ := zand h5
      obtain ⟨a2, a3⟩ := zand a2
      cases Nat.eq_of_beq_eq_true a1
      cases Nat.eq_of_beq_eq_true a2
      cases Nat.eq_of_beq_eq_true a3
      unfold zget at hw
      split at hw
      · rename_i heq
        cases heq
        exact zs_strcod C hp hd (znx_spec h2) ho hw.1 (hK _ _ _ _ hw.2).2.2
      · rename_i heq; cases heq
      · rename_i heq; cases heq
      · exact hw.elim
  · have h3 : (Nat.blt ci 13 && (Nat.blt k0 (zfn ci) && (zFL.any (fun q => q.2 == (zmOwn M, x, ci, k0)) && (Nat.beq (zfk (zfty ci k0)) ty || (Nat.beq (zfk (zfty ci k0)) 3 && Nat.beq ty 0))))) = true := by
      split at h3
      · rename_i heq
        cases heq
        exact absurd rfl hci
      · rename_i heq
        cases heq
        exact h3
      · cases h3
    obtain ⟨a1, c2⟩ := zand h3
    obtain ⟨a2, c3⟩ := zand c2
    obtain ⟨a3, a4⟩ := zand c3
    have b1 : ci < 13 := Nat.le_of_ble_eq_true a1
    have b2 : k0 < zfn ci := Nat.le_of_ble_eq_true a2
    unfold zget at hw
    split at hw
    · rename_i heq
      cases heq
      exact zs_getI C hp hd (znx_spec h2) b1 b2 a3 (by
        rcases zor a4 with h | h
        · exact Or.inl (Nat.eq_of_beq_eq_true h)
        · exact Or.inr (Nat.eq_of_beq_eq_true (zand h).1)) hw.1 (hK _ _ _ _ hw.2).2.2
    · rename_i heq
      cases heq
      exact zs_getL C hp hd (znx_spec h2) b1 b2 a3 (by
        rcases zor a4 with h | h
        · exact Nat.eq_of_beq_eq_true h
        · cases (zand h).2) hw.1 (hK _ _ _ _ hw.2).2.2
    · rename_i heq
      cases heq
      obtain ⟨a5, q, a6, a7⟩ := hw
      exact zs_getR C hp hd (znx_spec h2) b1 b2 a3 (by
        rcases zor a4 with h | h
        · exact Nat.eq_of_beq_eq_true h
        · cases (zand h).2) a5 a6 (hK _ _ _ _ a7).2.2
    · exact hw.elim
theorem zt_put {x : Nat} (C : zCx p l R s m args meth c M cad S0 A) (hp : zpcOf M i = pc) (hd : decode (zmCode M) pc = .ok (.putfield x, len)) (hck : zchk M i (pc, .putfield x, len, r) = true) (hv : zv (.putfield x) r i ls st S K)
    (hK : ∀ i1 l1 s1 S1, K i1 l1 s1 S1 → zu S1 - c0 ≤ R.cells ∧ zz S1 - z0 ≤ R.slots ∧ zGo p l e R s m args below meth c Q M cad tc D S0 A ws0 c0 z0 i1 l1 s1 S1) : zGo p l e R s m args below meth c Q M cad tc D S0 A ws0 c0 z0 i ls st S := by
  have hck : (Nat.beq len 3 && (znx M i pc 3 && (match (generalizing := false) r with
      | [ci, k, ty] => Nat.blt ci 13 && (Nat.blt k (zfn ci) && (zFL.any (fun q => q.2 == (zmOwn M, x, ci, k)) && (Nat.beq (zfk (zfty ci k)) ty && (!(zT ci k).2.2.2 || (Nat.beq (zmKind M) 2 && decide ((zT ci k).1 = zcn (zmOwn M)))))))
      | _ => false))) = true := hck
  obtain ⟨h1, h20⟩ := zand hck
  obtain ⟨h2, h3⟩ := zand h20
  clear h20
  obtain rfl : len = 3 := Nat.eq_of_beq_eq_true h1
  have hw : zput r i ls st S K := hv
  clear hv
  have hr : ∃ ci k0 ty, r = [ci, k0, ty] := by
    unfold zput at hw
    split at hw
    · exact ⟨_, _, _, rfl⟩
    · exact ⟨_, _, _, rfl⟩
    · exact ⟨_, _, _, rfl⟩
    · exact ⟨_, _, _, rfl⟩
    · exact hw.elim
  obtain ⟨ci, k0, ty, rfl⟩ := hr
  have h3 : (Nat.blt ci 13 && (Nat.blt k0 (zfn ci) && (zFL.any (fun q => q.2 == (zmOwn M, x, ci, k0)) && (Nat.beq (zfk (zfty ci k0)) ty && (!(zT ci k0).2.2.2 || (Nat.beq (zmKind M) 2 && decide ((zT ci k0).1 = zcn (zmOwn M)))))))) = true := h3
  obtain ⟨a1, c2⟩ := zand h3
  obtain ⟨a2, c3⟩ := zand c2
  obtain ⟨a3, c4⟩ := zand c3
  obtain ⟨a4, a5⟩ := zand c4
  have b1 : ci < 13 := Nat.le_of_ble_eq_true a1
  have b2 : k0 < zfn ci := Nat.le_of_ble_eq_true a2
  have b4 := Nat.eq_of_beq_eq_true a4
  have b5 : (zT ci k0).2.2.2 = false ∨ (zmKind M = 2 ∧ (zT ci k0).1 = zcn (zmOwn M)) := by
    rcases zor a5 with h | h
    · exact Or.inl (by simpa using h)
    · exact Or.inr ⟨Nat.eq_of_beq_eq_true (zand h).1, of_decide_eq_true (zand h).2⟩
  unfold zput at hw
  split at hw
  · rename_i heq
    cases heq
    exact zs_putI C hp hd (znx_spec h2) b1 b2 a3 b4 b5 hw.1 (hK _ _ _ _ hw.2).2.2
  · rename_i heq
    cases heq
    exact zs_putZ C hp hd (znx_spec h2) b1 b2 a3 b4 b5 hw.2.1 hw.1 (hK _ _ _ _ hw.2.2).2.2
  · rename_i heq
    cases heq
    exact zs_putL C hp hd (znx_spec h2) b1 b2 a3 b4 b5 hw.1 (hK _ _ _ _ hw.2).2.2
  · rename_i heq
    cases heq
    exact zs_putR C hp hd (znx_spec h2) b1 b2 a3 b4 b5 hw.1 (hK _ _ _ _ hw.2).2.2
  · exact hw.elim
end ZPlain2
