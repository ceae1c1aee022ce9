/-! What is asked of an instruction and its operands, as a test -/
def zpcOf (M : ZMt) (i : Nat) : Nat := match zop M i with
  | some o => o.1
  | none => 0
def znx (M : ZMt) (i pc len : Nat) : Bool := match zop M (i + 1) with
  | some o => Nat.beq o.1 (pc + len)
  | none => false
def ztg (M : ZMt) (pc t : Nat) (off : Int) : Bool := match zop M t with
  | some o => decide ((pc : Int) + off = (o.1 : Int))
  | none => false
def zfk (ty : FieldType) : Nat := match ty with
  | .long => 1
  | .object _ => 2
  | .array _ => 2
  | .int => 0
  | .boolean => 3
  | _ => 9
def zSTR : List (Nat × Nat × Nat × String) := [(6, 71, 7, "was now at said not"), (6, 77, 9, "(["), (6, 116, 11, "not"), (6, 118, 13, "was now at said"), (6, 138, 15, "+-*/"), (6, 152, 17, "<>="), (6, 154, 19, "or and"), (8, 41, 21, "heaps places mind words pairs moves"), (10, 31, 23, "put take move pair empty up down none three go say end"), (12, 156, 25, "heaps"), (12, 162, 27, "places"), (12, 164, 29, "mind"), (12, 166, 31, "words"), (12, 167, 33, "pairs"), (12, 169, 35, "moves"), (12, 202, 37, "put"), (12, 204, 39, "take"), (12, 206, 41, "move"), (12, 208, 43, "pair"), (12, 210, 45, "empty"), (12, 212, 47, "up"), (12, 214, 49, "down"), (12, 216, 51, "none"), (12, 218, 53, "three"), (12, 220, 55, "go"), (12, 222, 57, "say"), (12, 224, 59, "end"), (12, 247, 61, "was"), (12, 248, 63, "now"), (12, 250, 65, "at"), (12, 251, 67, "said"), (12, 262, 69, "not"), (12, 267, 71, "and"), (12, 272, 73, "or")]
def ztgs (M : ZMt) (pc : Nat) : List Nat → List Int → Bool
  | [], [] => true
  | t :: ts, o :: os => ztg M pc t o && ztgs M pc ts os
  | _, _ => false
noncomputable def zlink (own idx k : Nat) : Bool := zML.any (fun q => q.2 == (own, idx, k)) || zNL.any (fun q => q == (own, idx, k))
noncomputable def zcl? (own idx k : Nat) : Bool := zCL.any (fun q => q.2 == (own, idx, k))
noncomputable def zchk (M : ZMt) (i : Nat) (o : ZOp) : Bool := match o with
  | (pc, ins, len, r) => match ins with
    | .iconst n => Nat.beq len 1 && (znx M i pc 1 && decide (Int32.ofInt n = zcst r))
    | .bipush n => Nat.beq len 2 && (znx M i pc 2 && decide ((Int8.ofInt n).toInt32 = zcst r))
    | .sipush n => Nat.beq len 3 && (znx M i pc 3 && decide ((Int16.ofInt n).toInt32 = zcst r))
    | .lconst _ => Nat.beq len 1 && znx M i pc 1
    | .aconst_null => Nat.beq len 1 && znx M i pc 1
    | .ldc x => Nat.beq len 2 && (znx M i pc 2 && (match r with
      | [0, k] => zCI.any (fun q => q.2 == (zmOwn M, x, k))
      | [1, k] => zSTR.any (fun q => (q.1, q.2.1, q.2.2.1) == (zmOwn M, x, k))
      | _ => false))
    | .ldc_w x => Nat.beq len 3 && (znx M i pc 3 && (match r with
      | [0, k] => zCI.any (fun q => q.2 == (zmOwn M, x, k))
      | [1, k] => zSTR.any (fun q => (q.1, q.2.1, q.2.2.1) == (zmOwn M, x, k))
      | _ => false))
    | .ldc2_w x => Nat.beq len 3 && (znx M i pc 3 && (match r with
      | [k] => zCJ.any (fun q => q.2 == (zmOwn M, x, k))
      | _ => false))
    | .iload _ => Nat.beq len 2 && znx M i pc 2
    | .aload _ => Nat.beq len 2 && znx M i pc 2
    | .lload _ => Nat.beq len 2 && znx M i pc 2
    | .iload_n _ => Nat.beq len 1 && znx M i pc 1
    | .aload_n _ => Nat.beq len 1 && znx M i pc 1
    | .lload_n _ => Nat.beq len 1 && znx M i pc 1
    | .istore _ => Nat.beq len 2 && znx M i pc 2
    | .astore _ => Nat.beq len 2 && znx M i pc 2
    | .lstore _ => Nat.beq len 2 && znx M i pc 2
    | .istore_n _ => Nat.beq len 1 && znx M i pc 1
    | .astore_n _ => Nat.beq len 1 && znx M i pc 1
    | .lstore_n _ => Nat.beq len 1 && znx M i pc 1
    | .iinc _ n => Nat.beq len 3 && (znx M i pc 3 && decide (Int32.ofInt n = zcst r))
    | .dup => Nat.beq len 1 && znx M i pc 1
    | .if_icmp _ off => Nat.beq len 3 && (znx M i pc 3 && (match r with
      | [t] => ztg M pc t off
      | _ => false))
    | .ifCond _ off => Nat.beq len 3 && (znx M i pc 3 && (match r with
      | [t] => ztg M pc t off
      | _ => false))
    | .ifnonnull off => Nat.beq len 3 && (znx M i pc 3 && (match r with
      | [t] => ztg M pc t off
      | _ => false))
    | .goto off => Nat.beq len 3 && (match r with
      | [t] => ztg M pc t off
      | _ => false)
    | .tableswitch dflt lo hi offs => (match r with
      | lo' :: dt :: ts => decide (lo = (lo' : Int)) && (decide (hi + 1 = (lo' : Int) + ts.length) && (ztg M pc dt dflt && ztgs M pc ts offs.toList))
      | _ => false)
    | .getfield x => Nat.beq len 3 && (znx M i pc 3 && (match r with
      | [15, k, ty] => Nat.beq (zmOwn M) 15 && ((Nat.beq x 9 && (Nat.beq k 0 && Nat.beq ty 2)) || (Nat.beq x 15 && (Nat.beq k 1 && Nat.beq ty 0)))
      | [ci, k, ty] => Nat.blt ci 13 && (Nat.blt k (zfn ci) && (zFL.any (fun q => q.2 == (zmOwn M, x, ci, k)) && (Nat.beq (zfk (zfty ci k)) ty || (Nat.beq (zfk (zfty ci k)) 3 && Nat.beq ty 0))))
      | _ => false))
    | .putfield x => Nat.beq len 3 && (znx M i pc 3 && (match r with
      | [ci, k, ty] => Nat.blt ci 13 && (Nat.blt k (zfn ci) && (zFL.any (fun q => q.2 == (zmOwn M, x, ci, k)) && (Nat.beq (zfk (zfty ci k)) ty && (!(zT ci k).2.2.2 || (Nat.beq (zmKind M) 2 && decide ((zT ci k).1 = zcn (zmOwn M)))))))
      | _ => false))
    | .getstatic x => Nat.beq len 3 && (znx M i pc 3 && (match r with
      | [0, k] => Nat.beq (zmOwn M) 15 && (Nat.beq x 38 && Nat.beq k 1)
      | [1, k] => zGS.any (fun q => q.2 == (zmOwn M, x, k))
      | [2] => Nat.beq (zmOwn M) 15 && Nat.beq x 1053
      | _ => false))
    | .iaload => Nat.beq len 1 && (znx M i pc 1 && (match r with
      | [t] => Nat.beq t 100 || (Nat.beq t 104 || Nat.beq t 105)
      | _ => false))
    | .baload => Nat.beq len 1 && (znx M i pc 1 && (match r with
      | [t] => Nat.beq t 102 || Nat.beq t 103
      | _ => false))
    | .aaload => Nat.beq len 1 && (znx M i pc 1 && (match r with
      | [t] => Nat.beq t 113 || (Nat.beq t 115 || Nat.beq t 119)
      | _ => false))
    | .aastore => Nat.beq len 1 && (znx M i pc 1 && (match r with
      | [t, ci] => (Nat.beq t 113 || (Nat.beq t 115 || Nat.beq t 119)) && Nat.beq t (110 + ci)
      | _ => false))
    | .arraylength => Nat.beq len 1 && (znx M i pc 1 && (match r with
      | [t] => Nat.beq t 100 || (Nat.beq t 103 || (Nat.beq t 104 || Nat.beq t 105))
      | _ => false))
    | .new x => Nat.beq len 3 && (match r with
      | [ci, n] => znx M i pc 3 && (Nat.blt ci 13 && (Nat.beq n (zfn ci) && zcl? (zmOwn M) x ci))
      | [k] => zcl? (zmOwn M) x (1000 + k) && (Nat.blt k 4 && (Nat.beq (zmOwn M) 11 && (List.isEmpty (zmTab M) && (match zop M (i + 1), zop M (i + 2), zop M (i + 3) with
          | some (p1, .dup, 1, _), some (p2, .invokespecial y, 3, _), some (p3, .athrow, 1, _) => Nat.beq p1 (pc + 3) && (Nat.beq p2 (pc + 4) && (Nat.beq p3 (pc + 7) && [(0, 391), (1, 394), (2, 397), (3, 400)].any (fun q => q == (k, y))))
          | _, _, _ => false))))
      | _ => false)
    | .newarray a => Nat.beq len 2 && (znx M i pc 2 && (match r, a with
      | [100], .int => true
      | [101], .long => true
      | [102], .boolean => true
      | _, _ => false))
    | .anewarray x => Nat.beq len 3 && (znx M i pc 3 && (match r with
      | [t] => (Nat.beq t 113 || (Nat.beq t 115 || Nat.beq t 119)) && zcl? (zmOwn M) x (t - 110)
      | _ => false))
    | .checkcast x => Nat.beq len 3 && (znx M i pc 3 && zcl? (zmOwn M) x 2000)
    | .invokespecial x => Nat.beq len 3 && (match r with
      | [0] => znx M i pc 3 && zP_objinit.any (fun q => q.2 == (zmOwn M, x))
      | [k, m, 2] => znx M i pc 3 && (zlink (zmOwn M) x k && (Nat.beq (zmKind (zP k)) 2 && Nat.beq m (zmArgs (zP k))))
      | [] => true
      | _ => false)
    | .invokestatic x => Nat.beq len 3 && (match r with
      | [201] => znx M i pc 3 && zP_max.any (fun q => q.2 == (zmOwn M, x))
      | [202] => znx M i pc 3 && zP_min.any (fun q => q.2 == (zmOwn M, x))
      | [203] => znx M i pc 3 && zP_minL.any (fun q => q.2 == (zmOwn M, x))
      | [t] => znx M i pc 3 && (zP_copy.any (fun q => q.2 == (zmOwn M, x)) && (Nat.beq t 100 || Nat.beq t 104))
      | [k, m, 0] => znx M i pc 3 && (zlink (zmOwn M) x k && (Nat.beq (zmKind (zP k)) 0 && Nat.beq m (zmArgs (zP k))))
      | [] => true
      | _ => false)
    | .invokevirtual x => Nat.beq len 3 && (match r with
      | [t] => znx M i pc 3 && (zP_clone.any (fun q => q.2 == (zmOwn M, x)) && (Nat.beq t 100 || Nat.beq t 104))
      | [k, m, 1] => znx M i pc 3 && (zlink (zmOwn M) x k && (Nat.beq (zmKind (zP k)) 1 && Nat.beq m (zmArgs (zP k))))
      | [] => true
      | _ => false)
    | .ireturn => Nat.beq len 1 && (match zmRet M with
      | some .int => true
      | some .boolean => true
      | some .char => true
      | some .byte => true
      | _ => false)
    | .lreturn => Nat.beq len 1 && (match zmRet M with
      | some .long => true
      | _ => false)
    | .areturn => Nat.beq len 1 && (match zmRet M with
      | some (.object _) => true
      | some (.array _) => true
      | _ => false)
    | .return_ => Nat.beq len 1 && (match zmRet M with
      | none => true
      | _ => false)
    | .athrow => true
    | _ => Nat.beq len 1 && znx M i pc 1
noncomputable def zchkL (M : ZMt) : Nat → List ZOp → Bool
  | _, [] => true
  | i, o :: os => zchk M i o && zchkL M (i + 1) os
noncomputable def zchkC (M : ZMt) : Nat → List (List ZOp) → Bool
  | _, [] => true
  | j, l :: ls => Nat.ble l.length 16 && (zchkL M (16 * j) l && zchkC M (j + 1) ls)
/-- the table of handlers as resolved is the one in the class file -/
noncomputable def zchkH (M : ZMt) : List (Nat × Nat × Nat × Nat) → List (Nat × Nat × Nat × Nat) → Bool
  | [], [] => true
  | (f, t, h, x) :: hs, (f', t', h', y) :: ts => Nat.beq f f' && (Nat.beq t t' && ((match zop M h with
      | some o => Nat.beq o.1 h'
      | none => false) && (zcl? (zmOwn M) y (1000 + x) && (Nat.blt x 4 && zchkH M hs ts))))
  | _, _ => false
noncomputable def zchkM (M : ZMt) : Bool := zchkC M 0 (zmOps M) && (zchkH M (zmHan M) (zmTab M) && (Nat.ble (zmMaxL M) 20 && (decide (zcn (zmOwn M) = (zmName M).cls) && (Nat.beq (zmRc M) (zmOwn M) && (match zop M 0 with
  | some o => Nat.beq o.1 0
  | none => false)))))
set_option maxRecDepth 100000 in
theorem zq_N_init : zchkM m_N_init = true := by decide +kernel
set_option maxRecDepth 100000 in
theorem zq_N_feed : zchkM m_N_feed = true := by decide +kernel
set_option maxRecDepth 100000 in
theorem zq_N_valley : zchkM m_N_valley = true := by decide +kernel
set_option maxRecDepth 100000 in
theorem zq_N_way : zchkM m_N_way = true := by decide +kernel
set_option maxRecDepth 100000 in
theorem zq_N_task : zchkM m_N_task = true := by decide +kernel
set_option maxRecDepth 100000 in
theorem zq_N_fault : zchkM m_N_fault = true := by decide +kernel
set_option maxRecDepth 100000 in
theorem zq_N_told : zchkM m_N_told = true := by decide +kernel
set_option maxRecDepth 100000 in
theorem zq_N_act : zchkM m_N_act = true := by decide +kernel
set_option maxRecDepth 100000 in
theorem zq_N_judge : zchkM m_N_judge = true := by decide +kernel
set_option maxRecDepth 100000 in
theorem zq_N_heap : zchkM m_N_heap = true := by decide +kernel
set_option maxRecDepth 100000 in
theorem zq_N_place : zchkM m_N_place = true := by decide +kernel
set_option maxRecDepth 100000 in
theorem zq_N_run : zchkM m_N_run = true := by decide +kernel
set_option maxRecDepth 100000 in
theorem zq_N_ends : zchkM m_N_ends = true := by decide +kernel
set_option maxRecDepth 100000 in
theorem zq_N_row : zchkM m_N_row = true := by decide +kernel
set_option maxRecDepth 100000 in
theorem zq_N_left : zchkM m_N_left = true := by decide +kernel
set_option maxRecDepth 100000 in
theorem zq_N_on : zchkM m_N_on = true := by decide +kernel
set_option maxRecDepth 100000 in
theorem zq_N_holds : zchkM m_N_holds = true := by decide +kernel
set_option maxRecDepth 100000 in
theorem zq_N_right : zchkM m_N_right = true := by decide +kernel
set_option maxRecDepth 100000 in
theorem zq_N_least : zchkM m_N_least = true := by decide +kernel
set_option maxRecDepth 100000 in
theorem zq_N_kept : zchkM m_N_kept = true := by decide +kernel
set_option maxRecDepth 100000 in
theorem zq_N_find : zchkM m_N_find = true := by decide +kernel
set_option maxRecDepth 100000 in
theorem zq_N_keep : zchkM m_N_keep = true := by decide +kernel
set_option maxRecDepth 100000 in
theorem zq_N_can : zchkM m_N_can = true := by decide +kernel
set_option maxRecDepth 100000 in
theorem zq_N_why : zchkM m_N_why = true := by decide +kernel
set_option maxRecDepth 100000 in
theorem zq_N_cheat : zchkM m_N_cheat = true := by decide +kernel
set_option maxRecDepth 100000 in
theorem zq_N_soon : zchkM m_N_soon = true := by decide +kernel
set_option maxRecDepth 100000 in
theorem zq_N_hidden : zchkM m_N_hidden = true := by decide +kernel
set_option maxRecDepth 100000 in
theorem zq_N_places : zchkM m_N_places = true := by decide +kernel
set_option maxRecDepth 100000 in
theorem zq_N_pebbles : zchkM m_N_pebbles = true := by decide +kernel
set_option maxRecDepth 100000 in
theorem zq_N_fewest : zchkM m_N_fewest = true := by decide +kernel
set_option maxRecDepth 100000 in
theorem zq_N_tell : zchkM m_N_tell = true := by decide +kernel
set_option maxRecDepth 100000 in
theorem zq_N_word : zchkM m_N_word = true := by decide +kernel
set_option maxRecDepth 100000 in
theorem zq_N_stranger : zchkM m_N_stranger = true := by decide +kernel
set_option maxRecDepth 100000 in
theorem zq_N_mind : zchkM m_N_mind = true := by decide +kernel
set_option maxRecDepth 100000 in
theorem zq_N_whole : zchkM m_N_whole = true := by decide +kernel
set_option maxRecDepth 100000 in
theorem zq_N_knows : zchkM m_N_knows = true := by decide +kernel
set_option maxRecDepth 100000 in
theorem zq_N_woman : zchkM m_N_woman = true := by decide +kernel
set_option maxRecDepth 100000 in
theorem zq_N_field : zchkM m_N_field = true := by decide +kernel
set_option maxRecDepth 100000 in
theorem zq_N_share : zchkM m_N_share = true := by decide +kernel
set_option maxRecDepth 100000 in
theorem zq_N_even : zchkM m_N_even = true := by decide +kernel
set_option maxRecDepth 100000 in
theorem zq_N_envy : zchkM m_N_envy = true := by decide +kernel
set_option maxRecDepth 100000 in
theorem zq_N_mark : zchkM m_N_mark = true := by decide +kernel
set_option maxRecDepth 100000 in
theorem zq_N_agree : zchkM m_N_agree = true := by decide +kernel
set_option maxRecDepth 100000 in
theorem zq_N_rate : zchkM m_N_rate = true := by decide +kernel
set_option maxRecDepth 100000 in
theorem zq_N_trade : zchkM m_N_trade = true := by decide +kernel
set_option maxRecDepth 100000 in
theorem zq_N_image : zchkM m_N_image = true := by decide +kernel
set_option maxRecDepth 100000 in
theorem zq_N_restore : zchkM m_N_restore = true := by decide +kernel
set_option maxRecDepth 100000 in
theorem zq_N_status : zchkM m_N_status = true := by decide +kernel
set_option maxRecDepth 100000 in
theorem zq_N_count : zchkM m_N_count = true := by decide +kernel
set_option maxRecDepth 100000 in
theorem zq_N_isNot : zchkM m_N_isNot = true := by decide +kernel
set_option maxRecDepth 100000 in
theorem zq_N_isNoHeap : zchkM m_N_isNoHeap = true := by decide +kernel
set_option maxRecDepth 100000 in
theorem zq_N_isNoPlace : zchkM m_N_isNoPlace = true := by decide +kernel
set_option maxRecDepth 100000 in
theorem zq_N_isNoRange : zchkM m_N_isNoRange = true := by decide +kernel
set_option maxRecDepth 100000 in
theorem zq_N_isNoLength : zchkM m_N_isNoLength = true := by decide +kernel
set_option maxRecDepth 100000 in
theorem zq_N_isNoQuest : zchkM m_N_isNoQuest = true := by decide +kernel
set_option maxRecDepth 100000 in
theorem zq_N_isNoParty : zchkM m_N_isNoParty = true := by decide +kernel
set_option maxRecDepth 100000 in
theorem zq_N_refuseIf : zchkM m_N_refuseIf = true := by decide +kernel
set_option maxRecDepth 100000 in
theorem zq_N_refuseElementIf : zchkM m_N_refuseElementIf = true := by decide +kernel
set_option maxRecDepth 100000 in
theorem zq_N_refuseBarred : zchkM m_N_refuseBarred = true := by decide +kernel
set_option maxRecDepth 100000 in
theorem zq_N_theWay : zchkM m_N_theWay = true := by decide +kernel
set_option maxRecDepth 100000 in
theorem zq_N_theTask : zchkM m_N_theTask = true := by decide +kernel
set_option maxRecDepth 100000 in
theorem zq_N_adopt : zchkM m_N_adopt = true := by decide +kernel
set_option maxRecDepth 100000 in
theorem zq_N_flocksWithin : zchkM m_N_flocksWithin = true := by decide +kernel
set_option maxRecDepth 100000 in
theorem zq_N_isMetFrom : zchkM m_N_isMetFrom = true := by decide +kernel
set_option maxRecDepth 100000 in
theorem zq_N_actsWithoutWrong : zchkM m_N_actsWithoutWrong = true := by decide +kernel
set_option maxRecDepth 100000 in
theorem zq_N_isFound : zchkM m_N_isFound = true := by decide +kernel
set_option maxRecDepth 100000 in
theorem zq_M_thrown : zchkM m_M_thrown = true := by decide +kernel
set_option maxRecDepth 100000 in
theorem zq_M_may : zchkM m_M_may = true := by decide +kernel
set_option maxRecDepth 100000 in
theorem zq_M_within : zchkM m_M_within = true := by decide +kernel
set_option maxRecDepth 100000 in
theorem zq_M_init : zchkM m_M_init = true := by decide +kernel
set_option maxRecDepth 100000 in
theorem zq_M_feed : zchkM m_M_feed = true := by decide +kernel
set_option maxRecDepth 100000 in
theorem zq_M_fine : zchkM m_M_fine = true := by decide +kernel
set_option maxRecDepth 100000 in
theorem zq_M_wrong : zchkM m_M_wrong = true := by decide +kernel
set_option maxRecDepth 100000 in
theorem zq_M_here : zchkM m_M_here = true := by decide +kernel
set_option maxRecDepth 100000 in
theorem zq_M_isSmall : zchkM m_M_isSmall = true := by decide +kernel
set_option maxRecDepth 100000 in
theorem zq_M_isDigit : zchkM m_M_isDigit = true := by decide +kernel
set_option maxRecDepth 100000 in
theorem zq_M_word : zchkM m_M_word = true := by decide +kernel
set_option maxRecDepth 100000 in
theorem zq_M_of : zchkM m_M_of = true := by decide +kernel
set_option maxRecDepth 100000 in
theorem zq_M_pass : zchkM m_M_pass = true := by decide +kernel
set_option maxRecDepth 100000 in
theorem zq_M_readNumber : zchkM m_M_readNumber = true := by decide +kernel
set_option maxRecDepth 100000 in
theorem zq_M_sign : zchkM m_M_sign = true := by decide +kernel
set_option maxRecDepth 100000 in
theorem zq_M_isMore : zchkM m_M_isMore = true := by decide +kernel
set_option maxRecDepth 100000 in
theorem zq_M_begins : zchkM m_M_begins = true := by decide +kernel
set_option maxRecDepth 100000 in
theorem zq_M_result : zchkM m_M_result = true := by decide +kernel
set_option maxRecDepth 100000 in
theorem zq_M_valleyWord : zchkM m_M_valleyWord = true := by decide +kernel
set_option maxRecDepth 100000 in
theorem zq_M_valley : zchkM m_M_valley = true := by decide +kernel
set_option maxRecDepth 100000 in
theorem zq_M_actWord : zchkM m_M_actWord = true := by decide +kernel
set_option maxRecDepth 100000 in
theorem zq_M_readAct : zchkM m_M_readAct = true := by decide +kernel
set_option maxRecDepth 100000 in
theorem zq_M_way : zchkM m_M_way = true := by decide +kernel
set_option maxRecDepth 100000 in
theorem zq_M_emit : zchkM m_M_emit = true := by decide +kernel
set_option maxRecDepth 100000 in
theorem zq_M_opensOne : zchkM m_M_opensOne = true := by decide +kernel
set_option maxRecDepth 100000 in
theorem zq_M_unit : zchkM m_M_unit = true := by decide +kernel
set_option maxRecDepth 100000 in
theorem zq_M_product : zchkM m_M_product = true := by decide +kernel
set_option maxRecDepth 100000 in
theorem zq_M_sum : zchkM m_M_sum = true := by decide +kernel
set_option maxRecDepth 100000 in
theorem zq_M_oneOf : zchkM m_M_oneOf = true := by decide +kernel
set_option maxRecDepth 100000 in
theorem zq_M_allOf : zchkM m_M_allOf = true := by decide +kernel
set_option maxRecDepth 100000 in
theorem zq_M_anyOf : zchkM m_M_anyOf = true := by decide +kernel
set_option maxRecDepth 100000 in
theorem zq_M_isBegin : zchkM m_M_isBegin = true := by decide +kernel
set_option maxRecDepth 100000 in
theorem zq_M_task : zchkM m_M_task = true := by decide +kernel
set_option maxRecDepth 100000 in
theorem zq_M_fault : zchkM m_M_fault = true := by decide +kernel
set_option maxRecDepth 100000 in
theorem zq_M_told : zchkM m_M_told = true := by decide +kernel
set_option maxRecDepth 100000 in
theorem zq_M_isWay : zchkM m_M_isWay = true := by decide +kernel
set_option maxRecDepth 100000 in
theorem zq_M_act : zchkM m_M_act = true := by decide +kernel
set_option maxRecDepth 100000 in
theorem zq_M_mayAct : zchkM m_M_mayAct = true := by decide +kernel
set_option maxRecDepth 100000 in
theorem zq_M_judged : zchkM m_M_judged = true := by decide +kernel
set_option maxRecDepth 100000 in
theorem zq_M_judge : zchkM m_M_judge = true := by decide +kernel
set_option maxRecDepth 100000 in
theorem zq_M_heap : zchkM m_M_heap = true := by decide +kernel
set_option maxRecDepth 100000 in
theorem zq_M_place : zchkM m_M_place = true := by decide +kernel
set_option maxRecDepth 100000 in
theorem zq_M_fromFlock : zchkM m_M_fromFlock = true := by decide +kernel
set_option maxRecDepth 100000 in
theorem zq_M_fromNumber : zchkM m_M_fromNumber = true := by decide +kernel
set_option maxRecDepth 100000 in
theorem zq_M_does : zchkM m_M_does = true := by decide +kernel
set_option maxRecDepth 100000 in
theorem zq_M_isThing : zchkM m_M_isThing = true := by decide +kernel
set_option maxRecDepth 100000 in
theorem zq_M_goes : zchkM m_M_goes = true := by decide +kernel
set_option maxRecDepth 100000 in
theorem zq_M_isAllowed : zchkM m_M_isAllowed = true := by decide +kernel
set_option maxRecDepth 100000 in
theorem zq_M_run : zchkM m_M_run = true := by decide +kernel
set_option maxRecDepth 100000 in
theorem zq_M_ends : zchkM m_M_ends = true := by decide +kernel
set_option maxRecDepth 100000 in
theorem zq_M_row : zchkM m_M_row = true := by decide +kernel
set_option maxRecDepth 100000 in
theorem zq_M_left : zchkM m_M_left = true := by decide +kernel
set_option maxRecDepth 100000 in
theorem zq_M_on : zchkM m_M_on = true := by decide +kernel
set_option maxRecDepth 100000 in
theorem zq_M_worked : zchkM m_M_worked = true := by decide +kernel
set_option maxRecDepth 100000 in
theorem zq_M_isDone : zchkM m_M_isDone = true := by decide +kernel
set_option maxRecDepth 100000 in
theorem zq_M_allSo : zchkM m_M_allSo = true := by decide +kernel
set_option maxRecDepth 100000 in
theorem zq_M_isTask : zchkM m_M_isTask = true := by decide +kernel
set_option maxRecDepth 100000 in
theorem zq_M_holds : zchkM m_M_holds = true := by decide +kernel
set_option maxRecDepth 100000 in
theorem zq_M_goesAll : zchkM m_M_goesAll = true := by decide +kernel
set_option maxRecDepth 100000 in
theorem zq_M_mayRight : zchkM m_M_mayRight = true := by decide +kernel
set_option maxRecDepth 100000 in
theorem zq_M_right : zchkM m_M_right = true := by decide +kernel
set_option maxRecDepth 100000 in
theorem zq_M_least : zchkM m_M_least = true := by decide +kernel
set_option maxRecDepth 100000 in
theorem zq_M_choice : zchkM m_M_choice = true := by decide +kernel
set_option maxRecDepth 100000 in
theorem zq_M_lists : zchkM m_M_lists = true := by decide +kernel
set_option maxRecDepth 100000 in
theorem zq_M_lays : zchkM m_M_lays = true := by decide +kernel
set_option maxRecDepth 100000 in
theorem zq_M_picksOn : zchkM m_M_picksOn = true := by decide +kernel
set_option maxRecDepth 100000 in
theorem zq_M_finds : zchkM m_M_finds = true := by decide +kernel
set_option maxRecDepth 100000 in
theorem zq_M_keepFound : zchkM m_M_keepFound = true := by decide +kernel
set_option maxRecDepth 100000 in
theorem zq_M_mayFind : zchkM m_M_mayFind = true := by decide +kernel
set_option maxRecDepth 100000 in
theorem zq_M_find : zchkM m_M_find = true := by decide +kernel
set_option maxRecDepth 100000 in
theorem zq_M_keep : zchkM m_M_keep = true := by decide +kernel
set_option maxRecDepth 100000 in
theorem zq_M_isApart : zchkM m_M_isApart = true := by decide +kernel
set_option maxRecDepth 100000 in
theorem zq_M_can : zchkM m_M_can = true := by decide +kernel
set_option maxRecDepth 100000 in
theorem zq_M_why : zchkM m_M_why = true := by decide +kernel
set_option maxRecDepth 100000 in
theorem zq_M_plain : zchkM m_M_plain = true := by decide +kernel
set_option maxRecDepth 100000 in
theorem zq_M_isHow : zchkM m_M_isHow = true := by decide +kernel
set_option maxRecDepth 100000 in
theorem zq_M_isFound : zchkM m_M_isFound = true := by decide +kernel
set_option maxRecDepth 100000 in
theorem zq_M_cheat : zchkM m_M_cheat = true := by decide +kernel
set_option maxRecDepth 100000 in
theorem zq_M_soon : zchkM m_M_soon = true := by decide +kernel
set_option maxRecDepth 100000 in
theorem zq_M_hidden : zchkM m_M_hidden = true := by decide +kernel
set_option maxRecDepth 100000 in
theorem zq_M_kept : zchkM m_M_kept = true := by decide +kernel
set_option maxRecDepth 100000 in
theorem zq_M_isGood : zchkM m_M_isGood = true := by decide +kernel
set_option maxRecDepth 100000 in
theorem zq_M_rate : zchkM m_M_rate = true := by decide +kernel
set_option maxRecDepth 100000 in
theorem zq_M_round : zchkM m_M_round = true := by decide +kernel
set_option maxRecDepth 100000 in
theorem zq_M_trade : zchkM m_M_trade = true := by decide +kernel
set_option maxRecDepth 100000 in
theorem zq_M_follows : zchkM m_M_follows = true := by decide +kernel
set_option maxRecDepth 100000 in
theorem zq_M_whole : zchkM m_M_whole = true := by decide +kernel
set_option maxRecDepth 100000 in
theorem zq_M_knows : zchkM m_M_knows = true := by decide +kernel
set_option maxRecDepth 100000 in
theorem zq_M_woman : zchkM m_M_woman = true := by decide +kernel
set_option maxRecDepth 100000 in
theorem zq_M_digits : zchkM m_M_digits = true := by decide +kernel
set_option maxRecDepth 100000 in
theorem zq_M_digitSum : zchkM m_M_digitSum = true := by decide +kernel
set_option maxRecDepth 100000 in
theorem zq_M_isNumber : zchkM m_M_isNumber = true := by decide +kernel
set_option maxRecDepth 100000 in
theorem zq_M_places : zchkM m_M_places = true := by decide +kernel
set_option maxRecDepth 100000 in
theorem zq_M_pebbles : zchkM m_M_pebbles = true := by decide +kernel
set_option maxRecDepth 100000 in
theorem zq_M_fewest : zchkM m_M_fewest = true := by decide +kernel
set_option maxRecDepth 100000 in
theorem zq_M_tellBy : zchkM m_M_tellBy = true := by decide +kernel
set_option maxRecDepth 100000 in
theorem zq_M_mayTell : zchkM m_M_mayTell = true := by decide +kernel
set_option maxRecDepth 100000 in
theorem zq_M_tell : zchkM m_M_tell = true := by decide +kernel
set_option maxRecDepth 100000 in
theorem zq_M_wordx : zchkM m_M_wordx = true := by decide +kernel
set_option maxRecDepth 100000 in
theorem zq_M_stranger : zchkM m_M_stranger = true := by decide +kernel
set_option maxRecDepth 100000 in
theorem zq_M_field : zchkM m_M_field = true := by decide +kernel
set_option maxRecDepth 100000 in
theorem zq_M_owner : zchkM m_M_owner = true := by decide +kernel
set_option maxRecDepth 100000 in
theorem zq_M_thinks : zchkM m_M_thinks = true := by decide +kernel
set_option maxRecDepth 100000 in
theorem zq_M_envious : zchkM m_M_envious = true := by decide +kernel
set_option maxRecDepth 100000 in
theorem zq_M_isSharing : zchkM m_M_isSharing = true := by decide +kernel
set_option maxRecDepth 100000 in
theorem zq_M_mayShare : zchkM m_M_mayShare = true := by decide +kernel
set_option maxRecDepth 100000 in
theorem zq_M_share : zchkM m_M_share = true := by decide +kernel
set_option maxRecDepth 100000 in
theorem zq_M_even : zchkM m_M_even = true := by decide +kernel
set_option maxRecDepth 100000 in
theorem zq_M_envy : zchkM m_M_envy = true := by decide +kernel
set_option maxRecDepth 100000 in
theorem zq_M_mind : zchkM m_M_mind = true := by decide +kernel
set_option maxRecDepth 100000 in
theorem zq_M_mark : zchkM m_M_mark = true := by decide +kernel
set_option maxRecDepth 100000 in
theorem zq_M_areAlike : zchkM m_M_areAlike = true := by decide +kernel
set_option maxRecDepth 100000 in
theorem zq_M_agree : zchkM m_M_agree = true := by decide +kernel
set_option maxRecDepth 100000 in
theorem zq_M_image : zchkM m_M_image = true := by decide +kernel
set_option maxRecDepth 100000 in
theorem zq_M_restore : zchkM m_M_restore = true := by decide +kernel
set_option maxRecDepth 100000 in
theorem zq_M_status : zchkM m_M_status = true := by decide +kernel
set_option maxRecDepth 100000 in
theorem zq_M_count : zchkM m_M_count = true := by decide +kernel
set_option maxRecDepth 100000 in
theorem zq_Re_init : zchkM m_Re_init = true := by decide +kernel
set_option maxRecDepth 100000 in
theorem zq_Re_placesFor : zchkM m_Re_placesFor = true := by decide +kernel
set_option maxRecDepth 100000 in
theorem zq_Re_pebblesOf : zchkM m_Re_pebblesOf = true := by decide +kernel
set_option maxRecDepth 100000 in
theorem zq_Re_mostPebbles : zchkM m_Re_mostPebbles = true := by decide +kernel
set_option maxRecDepth 100000 in
theorem zq_Re_telling : zchkM m_Re_telling = true := by decide +kernel
set_option maxRecDepth 100000 in
theorem zq_Re_fewStates : zchkM m_Re_fewStates = true := by decide +kernel
set_option maxRecDepth 100000 in
theorem zq_Re_comesAgain : zchkM m_Re_comesAgain = true := by decide +kernel
set_option maxRecDepth 100000 in
theorem zq_Re_wholeNumbers : zchkM m_Re_wholeNumbers = true := by decide +kernel
set_option maxRecDepth 100000 in
theorem zq_Re_lengthen : zchkM m_Re_lengthen = true := by decide +kernel
set_option maxRecDepth 100000 in
theorem zq_Re_addEnding : zchkM m_Re_addEnding = true := by decide +kernel
set_option maxRecDepth 100000 in
theorem zq_Re_oldWoman : zchkM m_Re_oldWoman = true := by decide +kernel
set_option maxRecDepth 100000 in
theorem zq_Re_commonMultiple : zchkM m_Re_commonMultiple = true := by decide +kernel
set_option maxRecDepth 100000 in
theorem zq_Re_leastThatLeaves : zchkM m_Re_leastThatLeaves = true := by decide +kernel
set_option maxRecDepth 100000 in
theorem zq_Re_fewestAnswers : zchkM m_Re_fewestAnswers = true := by decide +kernel
set_option maxRecDepth 100000 in
theorem zq_Re_areAlike : zchkM m_Re_areAlike = true := by decide +kernel
set_option maxRecDepth 100000 in
theorem zq_Re_leastParting : zchkM m_Re_leastParting = true := by decide +kernel
set_option maxRecDepth 100000 in
theorem zq_Re_greater : zchkM m_Re_greater = true := by decide +kernel
set_option maxRecDepth 100000 in
theorem zq_Re_seekGain : zchkM m_Re_seekGain = true := by decide +kernel
set_option maxRecDepth 100000 in
theorem zq_Re_isRound : zchkM m_Re_isRound = true := by decide +kernel
set_option maxRecDepth 100000 in
theorem zq_Re_isTraded : zchkM m_Re_isTraded = true := by decide +kernel
set_option maxRecDepth 100000 in
theorem zq_Re_gainOfThousand : zchkM m_Re_gainOfThousand = true := by decide +kernel
set_option maxRecDepth 100000 in
theorem zq_Ru_init : zchkM m_Ru_init = true := by decide +kernel
set_option maxRecDepth 100000 in
theorem zq_Ru_startFrom : zchkM m_Ru_startFrom = true := by decide +kernel
set_option maxRecDepth 100000 in
theorem zq_Ru_startSmall : zchkM m_Ru_startSmall = true := by decide +kernel
set_option maxRecDepth 100000 in
theorem zq_Ru_begin : zchkM m_Ru_begin = true := by decide +kernel
set_option maxRecDepth 100000 in
theorem zq_Ru_flockNumber : zchkM m_Ru_flockNumber = true := by decide +kernel
set_option maxRecDepth 100000 in
theorem zq_Ru_follow : zchkM m_Ru_follow = true := by decide +kernel
set_option maxRecDepth 100000 in
theorem zq_Ru_followWrong : zchkM m_Ru_followWrong = true := by decide +kernel
set_option maxRecDepth 100000 in
theorem zq_Ru_keepsAt : zchkM m_Ru_keepsAt = true := by decide +kernel
set_option maxRecDepth 100000 in
theorem zq_Ru_isDone : zchkM m_Ru_isDone = true := by decide +kernel
set_option maxRecDepth 100000 in
theorem zq_Ru_isChanged : zchkM m_Ru_isChanged = true := by decide +kernel
set_option maxRecDepth 100000 in
theorem zq_Ru_areChanged : zchkM m_Ru_areChanged = true := by decide +kernel
set_option maxRecDepth 100000 in
theorem zq_Ru_moveOn : zchkM m_Ru_moveOn = true := by decide +kernel
set_option maxRecDepth 100000 in
theorem zq_Ru_has : zchkM m_Ru_has = true := by decide +kernel
set_option maxRecDepth 100000 in
theorem zq_Ru_endBehindLast : zchkM m_Ru_endBehindLast = true := by decide +kernel
set_option maxRecDepth 100000 in
theorem zq_Sh_init : zchkM m_Sh_init = true := by decide +kernel
set_option maxRecDepth 100000 in
theorem zq_Sh_divide : zchkM m_Sh_divide = true := by decide +kernel
set_option maxRecDepth 100000 in
theorem zq_Sh_sharingsOf : zchkM m_Sh_sharingsOf = true := by decide +kernel
set_option maxRecDepth 100000 in
theorem zq_Sh_firstEnvious : zchkM m_Sh_firstEnvious = true := by decide +kernel
set_option maxRecDepth 100000 in
theorem zq_Sh_seekFair : zchkM m_Sh_seekFair = true := by decide +kernel
set_option maxRecDepth 100000 in
theorem zq_Sh_ownTogether : zchkM m_Sh_ownTogether = true := by decide +kernel
set_option maxRecDepth 100000 in
theorem zq_Sh_leastSpread : zchkM m_Sh_leastSpread = true := by decide +kernel
set_option maxRecDepth 100000 in
theorem zq_Sh_spread : zchkM m_Sh_spread = true := by decide +kernel
set_option maxRecDepth 100000 in
theorem zq_St_init : zchkM m_St_init = true := by decide +kernel
set_option maxRecDepth 100000 in
theorem zq_St_copyFrom : zchkM m_St_copyFrom = true := by decide +kernel
set_option maxRecDepth 100000 in
theorem zq_St_settle : zchkM m_St_settle = true := by decide +kernel
set_option maxRecDepth 100000 in
theorem zq_St_remember : zchkM m_St_remember = true := by decide +kernel
set_option maxRecDepth 100000 in
theorem zq_St_takeOver : zchkM m_St_takeOver = true := by decide +kernel
set_option maxRecDepth 100000 in
theorem zq_Ta_init : zchkM m_Ta_init = true := by decide +kernel
set_option maxRecDepth 100000 in
theorem zq_Ta_add : zchkM m_Ta_add = true := by decide +kernel
set_option maxRecDepth 100000 in
theorem zq_Ta_begin : zchkM m_Ta_begin = true := by decide +kernel
set_option maxRecDepth 100000 in
theorem zq_Ta_advance : zchkM m_Ta_advance = true := by decide +kernel
set_option maxRecDepth 100000 in
theorem zq_Ta_kindOf : zchkM m_Ta_kindOf = true := by decide +kernel
set_option maxRecDepth 100000 in
theorem zq_Ta_refuse : zchkM m_Ta_refuse = true := by decide +kernel
set_option maxRecDepth 100000 in
theorem zq_Ta_faultAnswer : zchkM m_Ta_faultAnswer = true := by decide +kernel
set_option maxRecDepth 100000 in
theorem zq_Ta_isSign : zchkM m_Ta_isSign = true := by decide +kernel
set_option maxRecDepth 100000 in
theorem zq_Ta_takeSign : zchkM m_Ta_takeSign = true := by decide +kernel
set_option maxRecDepth 100000 in
theorem zq_Ta_signAmong : zchkM m_Ta_signAmong = true := by decide +kernel
set_option maxRecDepth 100000 in
theorem zq_Ta_wordAmong : zchkM m_Ta_wordAmong = true := by decide +kernel
set_option maxRecDepth 100000 in
theorem zq_Ta_isWord : zchkM m_Ta_isWord = true := by decide +kernel
set_option maxRecDepth 100000 in
theorem zq_Ta_takeNumber : zchkM m_Ta_takeNumber = true := by decide +kernel
set_option maxRecDepth 100000 in
theorem zq_Tk_init : zchkM m_Tk_init = true := by decide +kernel
set_option maxRecDepth 100000 in
theorem zq_Tk_isMetBy : zchkM m_Tk_isMetBy = true := by decide +kernel
set_option maxRecDepth 100000 in
theorem zq_Tk_isTrueOf : zchkM m_Tk_isTrueOf = true := by decide +kernel
set_option maxRecDepth 100000 in
theorem zq_Tk_valueOf : zchkM m_Tk_valueOf = true := by decide +kernel
set_option maxRecDepth 100000 in
theorem zq_Tk_worked : zchkM m_Tk_worked = true := by decide +kernel
set_option maxRecDepth 100000 in
theorem zq_TR_init : zchkM m_TR_init = true := by decide +kernel
set_option maxRecDepth 100000 in
theorem zq_TR_made : zchkM m_TR_made = true := by decide +kernel
set_option maxRecDepth 100000 in
theorem zq_TR_reads : zchkM m_TR_reads = true := by decide +kernel
set_option maxRecDepth 100000 in
theorem zq_TR_faultOfOneMore : zchkM m_TR_faultOfOneMore = true := by decide +kernel
set_option maxRecDepth 100000 in
theorem zq_TR_readsCondition : zchkM m_TR_readsCondition = true := by decide +kernel
set_option maxRecDepth 100000 in
theorem zq_TR_awaitValue : zchkM m_TR_awaitValue = true := by decide +kernel
set_option maxRecDepth 100000 in
theorem zq_TR_complete : zchkM m_TR_complete = true := by decide +kernel
set_option maxRecDepth 100000 in
theorem zq_TR_readsValue : zchkM m_TR_readsValue = true := by decide +kernel
set_option maxRecDepth 100000 in
theorem zq_TR_opens : zchkM m_TR_opens = true := by decide +kernel
set_option maxRecDepth 100000 in
theorem zq_TR_readsSign : zchkM m_TR_readsSign = true := by decide +kernel
set_option maxRecDepth 100000 in
theorem zq_TR_joins : zchkM m_TR_joins = true := by decide +kernel
set_option maxRecDepth 100000 in
theorem zq_TR_closes : zchkM m_TR_closes = true := by decide +kernel
set_option maxRecDepth 100000 in
theorem zq_TR_endsCondition : zchkM m_TR_endsCondition = true := by decide +kernel
set_option maxRecDepth 100000 in
theorem zq_TR_letWait : zchkM m_TR_letWait = true := by decide +kernel
set_option maxRecDepth 100000 in
theorem zq_TR_workOff : zchkM m_TR_workOff = true := by decide +kernel
set_option maxRecDepth 100000 in
theorem zq_TR_rankOf : zchkM m_TR_rankOf = true := by decide +kernel
set_option maxRecDepth 100000 in
theorem zq_TR_innermostOpen : zchkM m_TR_innermostOpen = true := by decide +kernel
set_option maxRecDepth 100000 in
theorem zq_TR_add : zchkM m_TR_add = true := by decide +kernel
set_option maxRecDepth 100000 in
theorem zq_Tr_init : zchkM m_Tr_init = true := by decide +kernel
set_option maxRecDepth 100000 in
theorem zq_Tr_seek : zchkM m_Tr_seek = true := by decide +kernel
set_option maxRecDepth 100000 in
theorem zq_Tr_countRivals : zchkM m_Tr_countRivals = true := by decide +kernel
set_option maxRecDepth 100000 in
theorem zq_Tr_pickAt : zchkM m_Tr_pickAt = true := by decide +kernel
set_option maxRecDepth 100000 in
theorem zq_Tr_tellApart : zchkM m_Tr_tellApart = true := by decide +kernel
set_option maxRecDepth 100000 in
theorem zq_Tr_endOf : zchkM m_Tr_endOf = true := by decide +kernel
set_option maxRecDepth 100000 in
theorem zq_Tr_doesAll : zchkM m_Tr_doesAll = true := by decide +kernel
set_option maxRecDepth 100000 in
theorem zq_Tr_waysOfLength : zchkM m_Tr_waysOfLength = true := by decide +kernel
set_option maxRecDepth 100000 in
theorem zq_Tr_begin : zchkM m_Tr_begin = true := by decide +kernel
set_option maxRecDepth 100000 in
theorem zq_Tr_addChanges : zchkM m_Tr_addChanges = true := by decide +kernel
set_option maxRecDepth 100000 in
theorem zq_Tr_addPairs : zchkM m_Tr_addPairs = true := by decide +kernel
set_option maxRecDepth 100000 in
theorem zq_Tr_addJumps : zchkM m_Tr_addJumps = true := by decide +kernel
set_option maxRecDepth 100000 in
theorem zq_Tr_add : zchkM m_Tr_add = true := by decide +kernel
set_option maxRecDepth 100000 in
theorem zq_Tr_pick : zchkM m_Tr_pick = true := by decide +kernel
set_option maxRecDepth 100000 in
theorem zq_Tr_advance : zchkM m_Tr_advance = true := by decide +kernel
set_option maxRecDepth 100000 in
theorem zq_VR_init : zchkM m_VR_init = true := by decide +kernel
set_option maxRecDepth 100000 in
theorem zq_VR_reads : zchkM m_VR_reads = true := by decide +kernel
set_option maxRecDepth 100000 in
theorem zq_VR_readsClause : zchkM m_VR_readsClause = true := by decide +kernel
set_option maxRecDepth 100000 in
theorem zq_Wa_init : zchkM m_Wa_init = true := by decide +kernel
set_option maxRecDepth 100000 in
theorem zq_Wa_add : zchkM m_Wa_add = true := by decide +kernel
set_option maxRecDepth 100000 in
theorem zq_Wa_change : zchkM m_Wa_change = true := by decide +kernel
set_option maxRecDepth 100000 in
theorem zq_Wa_copyFrom : zchkM m_Wa_copyFrom = true := by decide +kernel
set_option maxRecDepth 100000 in
theorem zq_Wa_firstBarred : zchkM m_Wa_firstBarred = true := by decide +kernel
set_option maxRecDepth 100000 in
theorem zq_Wa_allows : zchkM m_Wa_allows = true := by decide +kernel
set_option maxRecDepth 100000 in
theorem zq_WR_init : zchkM m_WR_init = true := by decide +kernel
set_option maxRecDepth 100000 in
theorem zq_WR_reads : zchkM m_WR_reads = true := by decide +kernel
set_option maxRecDepth 100000 in
theorem zq_WR_readsNumbers : zchkM m_WR_readsNumbers = true := by decide +kernel
set_option maxRecDepth 100000 in
theorem zq_L_valley : zchkM m_L_valley = true := by decide +kernel
set_option maxRecDepth 100000 in
theorem zq_L_way : zchkM m_L_way = true := by decide +kernel
set_option maxRecDepth 100000 in
theorem zq_L_task : zchkM m_L_task = true := by decide +kernel
set_option maxRecDepth 100000 in
theorem zq_L_told : zchkM m_L_told = true := by decide +kernel
set_option maxRecDepth 100000 in
theorem zq_L_act : zchkM m_L_act = true := by decide +kernel
set_option maxRecDepth 100000 in
theorem zq_L_judge : zchkM m_L_judge = true := by decide +kernel
set_option maxRecDepth 100000 in
theorem zq_L_heap : zchkM m_L_heap = true := by decide +kernel
set_option maxRecDepth 100000 in
theorem zq_L_place : zchkM m_L_place = true := by decide +kernel
set_option maxRecDepth 100000 in
theorem zq_L_run : zchkM m_L_run = true := by decide +kernel
set_option maxRecDepth 100000 in
theorem zq_L_ends : zchkM m_L_ends = true := by decide +kernel
set_option maxRecDepth 100000 in
theorem zq_L_row : zchkM m_L_row = true := by decide +kernel
set_option maxRecDepth 100000 in
theorem zq_L_left : zchkM m_L_left = true := by decide +kernel
set_option maxRecDepth 100000 in
theorem zq_L_holds : zchkM m_L_holds = true := by decide +kernel
set_option maxRecDepth 100000 in
theorem zq_L_right : zchkM m_L_right = true := by decide +kernel
set_option maxRecDepth 100000 in
theorem zq_L_least : zchkM m_L_least = true := by decide +kernel
set_option maxRecDepth 100000 in
theorem zq_L_find : zchkM m_L_find = true := by decide +kernel
set_option maxRecDepth 100000 in
theorem zq_L_keep : zchkM m_L_keep = true := by decide +kernel
set_option maxRecDepth 100000 in
theorem zq_L_can : zchkM m_L_can = true := by decide +kernel
set_option maxRecDepth 100000 in
theorem zq_L_why : zchkM m_L_why = true := by decide +kernel
set_option maxRecDepth 100000 in
theorem zq_L_cheat : zchkM m_L_cheat = true := by decide +kernel
set_option maxRecDepth 100000 in
theorem zq_L_soon : zchkM m_L_soon = true := by decide +kernel
set_option maxRecDepth 100000 in
theorem zq_L_hidden : zchkM m_L_hidden = true := by decide +kernel
set_option maxRecDepth 100000 in
theorem zq_L_places : zchkM m_L_places = true := by decide +kernel
set_option maxRecDepth 100000 in
theorem zq_L_pebbles : zchkM m_L_pebbles = true := by decide +kernel
set_option maxRecDepth 100000 in
theorem zq_L_fewest : zchkM m_L_fewest = true := by decide +kernel
set_option maxRecDepth 100000 in
theorem zq_L_tell : zchkM m_L_tell = true := by decide +kernel
set_option maxRecDepth 100000 in
theorem zq_L_word : zchkM m_L_word = true := by decide +kernel
set_option maxRecDepth 100000 in
theorem zq_L_stranger : zchkM m_L_stranger = true := by decide +kernel
set_option maxRecDepth 100000 in
theorem zq_L_field : zchkM m_L_field = true := by decide +kernel
set_option maxRecDepth 100000 in
theorem zq_L_share : zchkM m_L_share = true := by decide +kernel
set_option maxRecDepth 100000 in
theorem zq_L_even : zchkM m_L_even = true := by decide +kernel
set_option maxRecDepth 100000 in
theorem zq_L_envy : zchkM m_L_envy = true := by decide +kernel
set_option maxRecDepth 100000 in
theorem zq_L_mind : zchkM m_L_mind = true := by decide +kernel
set_option maxRecDepth 100000 in
theorem zq_L_mark : zchkM m_L_mark = true := by decide +kernel
set_option maxRecDepth 100000 in
theorem zq_L_agree : zchkM m_L_agree = true := by decide +kernel
set_option maxRecDepth 100000 in
theorem zq_L_kept : zchkM m_L_kept = true := by decide +kernel
set_option maxRecDepth 100000 in
theorem zq_L_rate : zchkM m_L_rate = true := by decide +kernel
set_option maxRecDepth 100000 in
theorem zq_L_trade : zchkM m_L_trade = true := by decide +kernel
set_option maxRecDepth 100000 in
theorem zq_L_whole : zchkM m_L_whole = true := by decide +kernel
set_option maxRecDepth 100000 in
theorem zq_L_knows : zchkM m_L_knows = true := by decide +kernel
set_option maxRecDepth 100000 in
theorem zq_L_woman : zchkM m_L_woman = true := by decide +kernel
set_option maxRecDepth 100000 in
theorem zq_L_law : zchkM m_L_law = true := by decide +kernel
set_option maxRecDepth 100000 in
theorem zq_JS_charAt : zchkM m_JS_charAt = true := by decide +kernel
set_option maxRecDepth 100000 in
theorem zq_JS_coder : zchkM m_JS_coder = true := by decide +kernel
set_option maxRecDepth 100000 in
theorem zq_JS_isLatin1 : zchkM m_JS_isLatin1 = true := by decide +kernel
set_option maxRecDepth 100000 in
theorem zq_JS_length : zchkM m_JS_length = true := by decide +kernel
set_option maxRecDepth 100000 in
theorem zq_JS_checkIndex : zchkM m_JS_checkIndex = true := by decide +kernel
set_option maxRecDepth 100000 in
theorem zq_JL_charAt : zchkM m_JL_charAt = true := by decide +kernel
set_option maxRecDepth 100000 in
theorem zq_JA_copyOf : zchkM m_JA_copyOf = true := by decide +kernel
set_option maxRecDepth 100000 in
theorem zq_JA_fill : zchkM m_JA_fill = true := by decide +kernel
set_option maxRecDepth 100000 in
theorem zq_JP_checkIndex : zchkM m_JP_checkIndex = true := by decide +kernel
