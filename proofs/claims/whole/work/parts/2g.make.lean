/-! The constructors, run by the kernel: what was done to the store, newest first -/
/-- a cell made (class, length, slots, whose ints it holds), an int written, a reference written -/
abbrev ZHo : Type := (Nat × Nat × Nat × Nat) ⊕ ((Nat × Nat × Int32) ⊕ (Nat × Nat × Nat))
abbrev ZHs : Type := List ZHo
def zap (S : ZSt) : ZHo → ZSt
  | .inl (t, n, sl, src) => zNew S t n sl (match src with
    | 0 => fun _ => 0
    | s + 1 => zI S (s + 1))
  | .inr (.inl (a, k, v)) => zsI S a k v
  | .inr (.inr (a, k, q)) => zsR S a k (some q)
def zab (L : Nat) (xs : Nat → Int32) : ZHs → ZSt
  | [] => zS0 L xs
  | op :: H => zap (zab L xs H) op
def hx : ZHs → Nat
  | [] => 75
  | .inl _ :: H => hx H + 1
  | _ :: H => hx H
def hc : ZHs → Nat → Nat
  | [], a => zcls0 a
  | .inl (t, _, _, _) :: H, a => if a = hx H then t else hc H a
  | .inr _ :: H, a => hc H a
def hn : ZHs → Nat → Nat
  | [], a => (match a with
    | 0 => 0
    | n + 1 => (zcon.getD (n + 1) []).length)
  | .inl (_, n, _, _) :: H, a => if a = hx H then n else hn H a
  | .inr _ :: H, a => hn H a
def hR : ZHs → Nat → Nat → Option Nat
  | [], a, k => if zcls0 a = 15 ∧ k = 0 then some (a + 1) else none
  | .inl _ :: H, a, k => if a = hx H then none else hR H a k
  | .inr (.inl _) :: H, a, k => hR H a k
  | .inr (.inr (a', k', q)) :: H, a, k => if a = a' ∧ k = k' then some q else hR H a k
def hI : ZHs → Nat → Nat → Int32
  | [], a, k => (match a with
    | 0 => 0
    | n + 1 => (zcon.getD (n + 1) []).getD k 0)
  | .inl (_, _, _, src) :: H, a, k => if a = hx H then (match src with
    | 0 => 0
    | s + 1 => hI H (s + 1) k) else hI H a k
  | .inr (.inl (a', k', v)) :: H, a, k => if a = a' ∧ k = k' then v else hI H a k
  | .inr (.inr _) :: H, a, k => hI H a k
def hu : ZHs → Nat
  | [] => 0
  | .inl _ :: H => hu H + 1
  | _ :: H => hu H
def hz : ZHs → Nat
  | [] => 0
  | .inl (_, _, sl, _) :: H => hz H + sl
  | .inr _ :: H => hz H
theorem hx_le : ∀ (H : ZHs), 75 ≤ hx H
  | [] => Nat.le_refl _
  | .inl _ :: H => Nat.le_succ_of_le (hx_le H)
  | .inr _ :: H => hx_le H
theorem ab_x {L : Nat} {xs : Nat → Int32} : ∀ (H : ZHs), zx (zab L xs H) = hx H
  | [] => rfl
  | .inl (t, n, sl, src) :: H => congrArg (· + 1) (ab_x H)
  | .inr (.inl (a, k, v)) :: H => ab_x H
  | .inr (.inr (a, k, q)) :: H => ab_x H
theorem ab_u {L : Nat} {xs : Nat → Int32} : ∀ (H : ZHs), zu (zab L xs H) = hu H
  | [] => rfl
  | .inl (t, n, sl, src) :: H => congrArg (· + 1) (ab_u H)
  | .inr (.inl (a, k, v)) :: H => ab_u H
  | .inr (.inr (a, k, q)) :: H => ab_u H
theorem ab_z {L : Nat} {xs : Nat → Int32} : ∀ (H : ZHs), zz (zab L xs H) = hz H
  | [] => rfl
  | .inl (t, n, sl, src) :: H => congrArg (· + sl) (ab_z H)
  | .inr (.inl (a, k, v)) :: H => ab_z H
  | .inr (.inr (a, k, q)) :: H => ab_z H
theorem ab_c {L : Nat} {xs : Nat → Int32} : ∀ (H : ZHs) (a : Nat), zc (zab L xs H) a = hc H a
  | [], a => rfl
  | .inl (t, n, sl, src) :: H, a => by
    show (if a = zx (zab L xs H) then t else zc (zab L xs H) a) = if a = hx H then t else hc H a
    rw [ab_x H, ab_c H a]
  | .inr (.inl (b, k, v)) :: H, a => ab_c H a
  | .inr (.inr (b, k, q)) :: H, a => ab_c H a
theorem ab_n {L : Nat} {xs : Nat → Int32} : ∀ (H : ZHs) (a : Nat), a ≠ 0 → zn (zab L xs H) a = hn H a
  | [], 0, h => absurd rfl h
  | [], a + 1, _ => rfl
  | .inl (t, n, sl, src) :: H, a, h => by
    show (if a = zx (zab L xs H) then n else zn (zab L xs H) a) = if a = hx H then n else hn H a
    rw [ab_x H, ab_n H a h]
  | .inr (.inl (b, k, v)) :: H, a, h => ab_n H a h
  | .inr (.inr (b, k, q)) :: H, a, h => ab_n H a h
theorem ab_n0 {L : Nat} {xs : Nat → Int32} : ∀ (H : ZHs), zn (zab L xs H) 0 = L
  | [] => rfl
  | .inl (t, n, sl, src) :: H => by
    show (if 0 = zx (zab L xs H) then n else zn (zab L xs H) 0) = L
    have := hx_le H
    rw [ab_x H, if_neg (by omega), ab_n0 H]
  | .inr (.inl (b, k, v)) :: H => ab_n0 H
  | .inr (.inr (b, k, q)) :: H => ab_n0 H
theorem ab_R {L : Nat} {xs : Nat → Int32} : ∀ (H : ZHs) (a k : Nat), zR (zab L xs H) a k = hR H a k
  | [], a, k => rfl
  | .inl (t, n, sl, src) :: H, a, k => by
    show (if a = zx (zab L xs H) then (fun _ => none) else zR (zab L xs H) a) k = if a = hx H then none else hR H a k
    rw [ab_x H]
    split
    · rfl
    · exact ab_R H a k
  | .inr (.inl (b, k', v)) :: H, a, k => ab_R H a k
  | .inr (.inr (b, k', q)) :: H, a, k => by
    have e1 : zR (zap (zab L xs H) (.inr (.inr (b, k', q)))) a k = if a = b then (if k = k' then some q else zR (zab L xs H) b k) else zR (zab L xs H) a k := by
      show (if a = b then (fun j => if j = k' then some q else zR (zab L xs H) b j) else zR (zab L xs H) a) k = _
      split <;> rfl
    have e2 : hR (.inr (.inr (b, k', q)) :: H) a k = if a = b ∧ k = k' then some q else hR H a k := rfl
    refine e1.trans ?_
    rw [e2]
    by_cases e : a = b
    · subst e
      rw [if_pos rfl]
      by_cases e3 : k = k'
      · rw [if_pos e3, if_pos ⟨rfl, e3⟩]
      · rw [if_neg e3, if_neg (fun y => e3 y.2)]
        exact ab_R H a k
    · rw [if_neg e, if_neg (fun y => e y.1)]
      exact ab_R H a k
theorem ab_I {L : Nat} {xs : Nat → Int32} : ∀ (H : ZHs) (a k : Nat), a ≠ 0 → zI (zab L xs H) a k = hI H a k
  | [], 0, k, h => absurd rfl h
  | [], a + 1, k, _ => rfl
  | .inl (t, n, sl, src) :: H, a, k, h => by
    show (if a = zx (zab L xs H) then (match src with
      | 0 => fun _ => 0
      | s + 1 => zI (zab L xs H) (s + 1)) else zI (zab L xs H) a) k = if a = hx H then (match src with
      | 0 => 0
      | s + 1 => hI H (s + 1) k) else hI H a k
    rw [ab_x H]
    split
    · cases src with
      | zero => rfl
      | succ s => exact ab_I H (s + 1) k (by omega)
    · exact ab_I H a k h
  | .inr (.inl (b, k', v)) :: H, a, k, h => by
    show zI (zsI (zab L xs H) b k' v) a k = if a = b ∧ k = k' then v else hI H a k
    by_cases e : a = b
    · rw [e]
      by_cases e2 : k = k'
      · rw [if_pos ⟨rfl, e2⟩, e2, zI_s]
      · rw [if_neg (fun y => e2 y.2), zI_o e2, ← e]
        exact ab_I H a k h
    · rw [if_neg (fun y => e y.1), zI_ne _ _ e]
      exact ab_I H a k h
  | .inr (.inr (b, k', q)) :: H, a, k, h => ab_I H a k h
/-- one instruction -/
def zcb (c : Jvm.ClassFile.Cond) (x y : Int32) : Bool := match c with
  | .eq => decide (x = y)
  | .ne => decide (¬ x = y)
  | .lt => decide (x < y)
  | .ge => decide (y ≤ x)
  | .gt => decide (y < x)
  | .le => decide (x ≤ y)
theorem zcb_t {c : Jvm.ClassFile.Cond} {x y : Int32} : zcb c x y = true ↔ zcnd c x y := by
  cases c <;> exact decide_eq_true_iff
abbrev ZPo : Type := Nat × ZLo × List Value × ZHs
def zpl (ins : Instr) (r : List Nat) (i : Nat) (ls : ZLo) (st : List Value) (H : ZHs) : Option ZPo := match ins with
  | .iconst _ => some (i + 1, ls, .int (zcst r) :: st, H)
  | .bipush _ => some (i + 1, ls, .int (zcst r) :: st, H)
  | .sipush _ => some (i + 1, ls, .int (zcst r) :: st, H)
  | .aload_n k => (match ls[k.val]? with
    | some (some (.ref v)) => some (i + 1, ls, .ref v :: st, H)
    | _ => none)
  | .iload_n k => (match ls[k.val]? with
    | some (some (.int v)) => some (i + 1, ls, .int v :: st, H)
    | _ => none)
  | .istore_n k => (match st with
    | .int v :: t => if (Nat.blt k.val ls.length && zfree ls k.val) = true then some (i + 1, ls.set k.val (some (.int v)), t, H) else none
    | _ => none)
  | .istore k => (match st with
    | .int v :: t => if (Nat.blt k ls.length && zfree ls k) = true then some (i + 1, ls.set k (some (.int v)), t, H) else none
    | _ => none)
  | .astore_n k => (match st with
    | .ref v :: t => if (Nat.blt k.val ls.length && zfree ls k.val) = true then some (i + 1, ls.set k.val (some (.ref v)), t, H) else none
    | _ => none)
  | .iinc k _ => (match ls[k]? with
    | some (some (.int x)) => if (Nat.blt k ls.length && zfree ls k) = true then some (i + 1, ls.set k (some (.int (x + zcst r))), st, H) else none
    | _ => none)
  | .dup => (match st with
    | .ref v :: t => some (i + 1, ls, .ref v :: .ref v :: t, H)
    | _ => none)
  | .iadd => (match st with
    | .int y :: .int x :: t => some (i + 1, ls, .int (x + y) :: t, H)
    | _ => none)
  | .if_icmp c _ => (match r, st with
    | [tg], .int y :: .int x :: t => if zcb c x y = true then some (tg, ls, t, H) else some (i + 1, ls, t, H)
    | _, _ => none)
  | .goto _ => (match r with
    | [tg] => some (tg, ls, st, H)
    | _ => none)
  | .getfield _ => (match r, st with
    | [ci, k, 2], .ref a :: t => if hc H a = ci then (match hR H a k with
      | some q => some (i + 1, ls, .ref q :: t, H)
      | none => none) else none
    | _, _ => none)
  | .putfield _ => (match r, st with
    | [ci, k, 0], .int v :: .ref a :: t => if hc H a = ci then some (i + 1, ls, t, .inr (.inl (a, k, v)) :: H) else none
    | [ci, k, 3], .int v :: .ref a :: t => if hc H a = ci ∧ (v = 0 ∨ v = 1) then some (i + 1, ls, t, .inr (.inl (a, k, v)) :: H) else none
    | [ci, k, 2], .ref v :: .ref a :: t => if hc H a = ci then some (i + 1, ls, t, .inr (.inr (a, k, v)) :: H) else none
    | _, _ => none)
  | .getstatic _ => (match r with
    | [1, k] => some (i + 1, ls, .ref k :: st, H)
    | _ => none)
  | .iastore => (match st with
    | .int v :: .int j :: .ref a :: t => if (hc H a = 100 ∧ a ≠ 0) ∧ (¬ j < 0 ∧ j.toNatClampNeg < hn H a) then some (i + 1, ls, t, .inr (.inl (a, j.toNatClampNeg, v)) :: H) else none
    | _ => none)
  | .arraylength => (match r, st with
    | [tg], .ref a :: t => if hc H a = tg ∧ a ≠ 0 then some (i + 1, ls, .int (nI (hn H a)) :: t, H) else none
    | _, _ => none)
  | .new _ => (match r with
    | [ci, n] => some (i + 1, ls, .ref (hx H) :: st, .inl (ci, 0, n, 0) :: H)
    | _ => none)
  | .newarray _ => (match r, st with
    | [tg], .int n :: t => if ¬ n < 0 ∧ n.toNatClampNeg ≤ 60000000 then some (i + 1, ls, .ref (hx H) :: t, .inl (tg, n.toNatClampNeg, n.toNatClampNeg, 0) :: H) else none
    | _, _ => none)
  | .anewarray _ => (match r, st with
    | [tg], .int n :: t => if ¬ n < 0 ∧ n.toNatClampNeg ≤ 60000000 then some (i + 1, ls, .ref (hx H) :: t, .inl (tg, n.toNatClampNeg, n.toNatClampNeg, 0) :: H) else none
    | _, _ => none)
  | .checkcast _ => (match st with
    | .ref a :: t => if hc H a = 100 then some (i + 1, ls, .ref a :: t, H) else none
    | _ => none)
  | .invokespecial _ => (match r, st with
    | [0], .ref _ :: t => if Nat.ble t.length 40 = true then some (i + 1, ls, t, H) else none
    | _, _ => none)
  | .invokevirtual _ => (match r, st with
    | [tg], .ref a :: t => (match a with
      | 0 => none
      | s + 1 => if Nat.ble t.length 40 = true ∧ hc H (s + 1) = tg then some (i + 1, ls, .ref (hx H) :: t, .inl (100, hn H (s + 1), hn H (s + 1), s + 1) :: H) else none)
    | _, _ => none)
  | _ => none
set_option maxHeartbeats 4000000 in
theorem zpl_v {L : Nat} {xs : Nat → Int32} {ins : Instr} {r : List Nat} {i : Nat} {ls : ZLo} {st : List Value} {H : ZHs} {i1 : Nat} {l1 : ZLo} {s1 : List Value} {H1 : ZHs} (h : zpl ins r i ls st H = some (i1, l1, s1, H1)) (K : ZNx) (hK : K i1 l1 s1 (zab L xs H1)) : zv ins r i ls st (zab L xs H) K := by
  have ec := fun a => ab_c (L := L) (xs := xs) H a
  have en := fun a => ab_n (L := L) (xs := xs) H a
  have er := fun a => ab_R (L := L) (xs := xs) H a
  have ex := ab_x (L := L) (xs := xs) H
  unfold zpl at h
  split at h
  · cases h; exact hK
  · cases h; exact hK
  · cases h; exact hK
  · split at h
    · rename_i k v e
      cases h
      show zld 2 _ _ _ _ _ _
      unfold zld
      rw [e]
      exact hK
    · cases h
  · split at h
    · rename_i k v e
      cases h
      show zld 0 _ _ _ _ _ _
      unfold zld
      rw [e]
      exact hK
    · cases h
  · split at h
    · split at h
      · rename_i hb
        cases h
        show zst1 _ _ _ _ _ _ _
        unfold zst1
        rw [hb]
        exact hK
      · cases h
    · cases h
  · split at h
    · split at h
      · rename_i hb
        cases h
        show zst1 _ _ _ _ _ _ _
        unfold zst1
        rw [hb]
        exact hK
      · cases h
    · cases h
  · split at h
    · split at h
      · rename_i hb
        cases h
        show zst1 _ _ _ _ _ _ _
        unfold zst1
        rw [hb]
        exact hK
      · cases h
    · cases h
  · split at h
    · rename_i e
      split at h
      · rename_i hb
        cases h
        simp only [zv]
        rw [e]
        show zst1 _ _ _ _ _ _ _
        unfold zst1
        rw [hb]
        exact hK
      · cases h
    · cases h
  · split at h
    · cases h; exact hK
    · cases h
  · split at h
    · cases h; exact hK
    · cases h
  · split at h
    · split at h
      · rename_i hb
        cases h
        exact ⟨fun _ => hK, fun y => absurd (zcb_t.mp hb) y⟩
      · rename_i hb
        cases h
        exact ⟨fun y => absurd (zcb_t.mpr y) hb, fun _ => hK⟩
    · cases h
  · split at h
    · cases h; exact hK
    · cases h
  · split at h
    · split at h
      · rename_i hb
        split at h
        · rename_i q hq
          cases h
          exact ⟨(ec _).trans hb, q, (er _ _).trans hq, hK⟩
        · cases h
      · cases h
    · cases h
  · split at h
    · split at h
      · rename_i hb
        cases h
        exact ⟨(ec _).trans hb, hK⟩
      · cases h
    · split at h
      · rename_i hb
        cases h
        exact ⟨(ec _).trans hb.1, hb.2, hK⟩
      · cases h
    · split at h
      · rename_i hb
        cases h
        exact ⟨(ec _).trans hb, hK⟩
      · cases h
    · cases h
  · split at h
    · cases h; exact hK
    · cases h
  · split at h
    · split at h
      · rename_i hb
        cases h
        refine ⟨(ec _).trans hb.1.1, ?_, hK⟩
        rw [en _ hb.1.2]
        exact fun y => by
          rcases y with y | y
          · exact hb.2.1 y
          · have := hb.2.2
            omega
      · cases h
    · cases h
  · split at h
    · split at h
      · rename_i hb
        cases h
        refine ⟨(ec _).trans hb.1, ?_⟩
        rw [en _ hb.2]
        exact hK
      · cases h
    · cases h
  · split at h
    · cases h
      rw [← ex] at hK
      exact hK
    · cases h
  · split at h
    · split at h
      · rename_i hb
        cases h
        rw [← ex] at hK
        exact ⟨hb.1, hb.2, hK⟩
      · cases h
    · cases h
  · split at h
    · split at h
      · rename_i hb
        cases h
        rw [← ex] at hK
        exact ⟨hb.1, hb.2, hK⟩
      · cases h
    · cases h
  · split at h
    · split at h
      · rename_i hb
        cases h
        exact ⟨(ec _).trans hb, hK⟩
      · cases h
    · cases h
  · split at h
    · split at h
      · rename_i hb
        cases h
        simp only [zv]
        rw [hb]
        exact hK
      · cases h
    · cases h
  · split at h
    · split at h
      · cases h
      · split at h
        · rename_i hb
          cases h
          simp only [zv]
          rw [hb.1]
          refine ⟨(ec _).trans hb.2, ?_⟩
          rw [ex, en _ (by omega)]
          exact hK
        · cases h
    · cases h
  · cases h
