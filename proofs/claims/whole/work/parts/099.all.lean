/-! All plain instructions -/
section ZAll
variable {p : Program} {l : Launch} {e : Env} {R : Room} {s : State} {m : MethodId} {args : Array Value} {below : List Frame} {meth : Method} {c : Code} {Q : State → Prop} {M : ZMt} {cad : Nat → Nat} {tc : Nat → ClassId} {D : va_G} {S0 : ZSt} {A : Nat → Prop} {ws0 : va_W} {c0 z0 : Nat}
variable {i pc len : Nat} {r : List Nat} {ls : ZLo} {st : List Value} {S : ZSt} {K : ZNx}
theorem zck_copy {x a : Nat} (e1 : a ≠ 201) (e2 : a ≠ 202) (e3 : a ≠ 203) (hck : zchk M i (pc, .invokestatic x, len, [a]) = true) : a = 100 ∨ a = 104 := by
  have h : (Nat.beq len 3 && (match (generalizing := false) ([a] : List Nat) with
      | [201] => znx M i pc 3 && zP_max.any (fun q => q.2 == (zmOwn M, x))
      | [202] => znx M i pc 3 && zP_min.any (fun q => q.2 == (zmOwn M, x))
      | [203] => znx M i pc 3 && zP_minL.any (fun q => q.2 == (zmOwn M, x))
      | [t] => znx M i pc 3 && (zP_copy.any (fun q => q.2 == (zmOwn M, x)) && (Nat.beq t 100 || Nat.beq t 104))
      | [k, m, 0] => znx M i pc 3 && (zlink (zmOwn M) x k && (Nat.beq (zmKind (zP k)) 0 && Nat.beq m (zmArgs (zP k))))
      | [] => true
      | _ => false)) = true := hck
  obtain ⟨-, h2⟩ := zand h
  split at h2
  · rename_i heq; cases heq; exact absurd rfl e1
  · rename_i heq; cases heq; exact absurd rfl e2
  · rename_i heq; cases heq; exact absurd rfl e3
  · rename_i heq
    cases heq
    obtain ⟨-, h3⟩ := zand h2
    obtain ⟨-, h4⟩ := zand h3
    rcases zor h4 with h | h
    · exact Or.inl (Nat.eq_of_beq_eq_true h)
    · exact Or.inr (Nat.eq_of_beq_eq_true h)
  · rename_i heq; cases heq
  · rename_i heq; cases heq
  · cases h2
theorem zv_st2 {x a b : Nat} (hv : zv (.invokestatic x) (a :: b :: r) i ls st S K) : False := by
  have hw : (match (generalizing := false) (a :: b :: r), st with
    | [201], .int y :: .int x :: t => (match Nat.ble t.length 40 with
      | true => K (i + 1) ls (.int (if x < y then y else x) :: t) S
      | false => False)
    | [202], .int y :: .int x :: t => (match Nat.ble t.length 40 with
      | true => K (i + 1) ls (.int (if y < x then y else x) :: t) S
      | false => False)
    | [203], .long y :: .long x :: t => (match Nat.ble t.length 40 with
      | true => K (i + 1) ls (.long (if y < x then y else x) :: t) S
      | false => False)
    | [tg], .int n :: .int dp :: .ref b :: .int sp :: .ref a :: t => (match Nat.ble t.length 40 with
      | true => zc S a = tg ∧ zc S b = 100 ∧ ¬ sp < 0 ∧ ¬ dp < 0 ∧ ¬ n < 0 ∧ sp.toNatClampNeg + n.toNatClampNeg ≤ zn S a ∧ dp.toNatClampNeg + n.toNatClampNeg ≤ zn S b ∧
        K (i + 1) ls t (zwI S b (va_cpy (zI S a) (zI S b) sp.toNatClampNeg dp.toNatClampNeg n.toNatClampNeg))
      | false => False)
    | _, _ => False) := hv
  split at hw
  · rename_i heq; cases heq
  · rename_i heq; cases heq
  · rename_i heq; cases heq
  · rename_i heq; cases heq
  · exact hw
theorem zt_all {ins : Instr} (C : zCx p l R s m args meth c M cad S0 A) (hop : zop M i = some (pc, ins, len, r)) (hd : decode (zmCode M) pc = .ok (ins, len)) (hck : zchk M i (pc, ins, len, r) = true) (hv : zv ins r i ls st S K)
    (hK : ∀ i1 l1 s1 S1, K i1 l1 s1 S1 → zu S1 - c0 ≤ R.cells ∧ zz S1 - z0 ≤ R.slots ∧ zGo p l e R s m args below meth c Q M cad tc D S0 A ws0 c0 z0 i1 l1 s1 S1) : zGo p l e R s m args below meth c Q M cad tc D S0 A ws0 c0 z0 i ls st S := by
  have hp : zpcOf M i = pc := by
    unfold zpcOf
    rw [hop]
  cases ins with
  | iconst => exact zt_iconst C hp hd hck hv hK
  | bipush => exact zt_bipush C hp hd hck hv hK
  | sipush => exact zt_sipush C hp hd hck hv hK
  | lconst => exact zt_lconst C hp hd hck hv hK
  | aconst_null => exact zt_null C hp hd hck hv hK
  | ldc => exact zt_ldc C hp hd hck hv hK
  | ldc_w => exact zt_ldcw C hp hd hck hv hK
  | ldc2_w => exact zt_ldc2 C hp hd hck hv hK
  | iinc => exact zt_iinc C hp hd hck hv hK
  | dup => exact zt_dup C hp hd hck hv hK
  | dup2 => exact zt_dup2 C hp hd hck hv hK
  | pop => exact zt_pop C hp hd hck hv hK
  | if_icmp => exact zt_icmp C hp hd hck hv hK
  | ifCond => exact zt_if C hp hd hck hv hK
  | ifnonnull => exact zt_nonnull C hp hd hck hv hK
  | goto => exact zt_goto C hp hd hck hv hK
  | tableswitch => exact zt_switch C hp hd hck hv hK
  | getfield => exact zt_get C hp hd hck hv hK
  | putfield => exact zt_put C hp hd hck hv hK
  | getstatic => exact zt_gets C hp hd hck hv hK
  | iaload => exact zt_iald C hp hd hck hv hK
  | baload => exact zt_bald C hp hd hck hv hK
  | laload => exact zt_lald C hp hd hck hv hK
  | aaload => exact zt_aald C hp hd hck hv hK
  | iastore => exact zt_iast C hp hd hck hv hK
  | bastore => exact zt_zast C hp hd hck hv hK
  | lastore => exact zt_last C hp hd hck hv hK
  | aastore => exact zt_aast C hp hd hck hv hK
  | arraylength => exact zt_alen C hp hd hck hv hK
  | newarray => exact zt_newa C hp hd hck hv hK
  | anewarray => exact zt_anew C hp hd hck hv hK
  | checkcast => exact zt_cast C hp hd hck hv hK
  | iload => exact zt_iload C hp hd hck hv hK
  | iload_n => exact zt_iload_n C hp hd hck hv hK
  | istore => exact zt_istore C hp hd hck hv hK
  | istore_n => exact zt_istore_n C hp hd hck hv hK
  | lload => exact zt_lload C hp hd hck hv hK
  | lload_n => exact zt_lload_n C hp hd hck hv hK
  | lstore => exact zt_lstore C hp hd hck hv hK
  | lstore_n => exact zt_lstore_n C hp hd hck hv hK
  | aload => exact zt_aload C hp hd hck hv hK
  | aload_n => exact zt_aload_n C hp hd hck hv hK
  | astore => exact zt_astore C hp hd hck hv hK
  | astore_n => exact zt_astore_n C hp hd hck hv hK
  | iadd => exact zt_iadd C hp hd hck hv hK
  | isub => exact zt_isub C hp hd hck hv hK
  | imul => exact zt_imul C hp hd hck hv hK
  | iand => exact zt_iand C hp hd hck hv hK
  | ior => exact zt_ior C hp hd hck hv hK
  | ixor => exact zt_ixor C hp hd hck hv hK
  | ishl => exact zt_ishl C hp hd hck hv hK
  | ishr => exact zt_ishr C hp hd hck hv hK
  | iushr => exact zt_iushr C hp hd hck hv hK
  | idiv => exact zt_idiv C hp hd hck hv hK
  | irem => exact zt_irem C hp hd hck hv hK
  | ineg => exact zt_ineg C hp hd hck hv hK
  | ladd => exact zt_ladd C hp hd hck hv hK
  | lsub => exact zt_lsub C hp hd hck hv hK
  | lmul => exact zt_lmul C hp hd hck hv hK
  | land => exact zt_land C hp hd hck hv hK
  | lor => exact zt_lor C hp hd hck hv hK
  | lshl => exact zt_lshl C hp hd hck hv hK
  | lshr => exact zt_lshr C hp hd hck hv hK
  | lushr => exact zt_lushr C hp hd hck hv hK
  | ldiv => exact zt_ldiv C hp hd hck hv hK
  | lrem => exact zt_lrem C hp hd hck hv hK
  | lcmp => exact zt_lcmp C hp hd hck hv hK
  | i2l => exact zt_i2l C hp hd hck hv hK
  | l2i => exact zt_l2i C hp hd hck hv hK
  | i2c => exact zt_i2c C hp hd hck hv hK
  | new x =>
    rcases r with _ | ⟨a, _ | ⟨b, _ | ⟨d, r⟩⟩⟩
    · exact hv.elim
    · exact hv.elim
    · exact zt_new C hp hd hck hv hK
    · exact hv.elim
  | invokespecial x =>
    rcases r with _ | ⟨a, _ | ⟨b, r⟩⟩
    · exact hv.elim
    · cases a with
      | zero => exact zt_objinit C hp hd hck hv hK
      | succ n => exact hv.elim
    · exact absurd hv (by unfold zv; split <;> simp_all)
  | invokestatic x =>
    rcases r with _ | ⟨a, _ | ⟨b, r⟩⟩
    · exact hv.elim
    · by_cases e1 : a = 201
      · subst e1
        exact zt_max C hp hd hck hv hK
      · by_cases e2 : a = 202
        · subst e2
          exact zt_min C hp hd hck hv hK
        · by_cases e3 : a = 203
          · subst e3
            exact zt_minL C hp hd hck hv hK
          · exact zt_copy (zck_copy e1 e2 e3 hck) C hp hd hck hv hK
    · exact (zv_st2 hv).elim
  | invokevirtual x =>
    rcases r with _ | ⟨a, _ | ⟨b, r⟩⟩
    · exact hv.elim
    · exact zt_clone C hp hd hck hv hK
    · exact hv.elim
  | _ => exact hv.elim
end ZAll
