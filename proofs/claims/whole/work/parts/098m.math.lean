/-! Math.max, Math.min -/
section ZMath
variable {p : Program} {l : Launch} {e : Env} {R : Room} {s : State} {m : MethodId} {args : Array Value} {below : List Frame} {meth : Method} {c : Code} {Q : State → Prop} {M : ZMt} {cad : Nat → Nat} {tc : Nat → ClassId} {D : va_G} {S0 : ZSt} {A : Nat → Prop} {ws0 : va_W} {c0 z0 : Nat}
variable {i pc len : Nat} {r : List Nat} {ls : ZLo} {st : List Value} {S : ZSt} {K : ZNx}
theorem zs_no203 {n : Int32} {w9 : Value} (C : zCx p l R s m args meth c M cad S0 A) (h : ∃ dp b sp a u, w9 = .int dp ∧ st = .ref b :: .int sp :: .ref a :: u ∧ zc S a = 203) : zGo p l e R s m args below meth c Q M cad tc D S0 A ws0 c0 z0 i ls (.int n :: w9 :: st) S := by
  obtain ⟨hx, hb, hml, hown, hts, hlk, hrt, hin, htr, hA, hKc, hKw, htab, hRf, hRl⟩ := C
  obtain ⟨dp, b, sp, a, u, rfl, rfl, h9⟩ := h
  intro ws H locs ar sr hW hL hl hS hc hz
  obtain ⟨V1, sr, rfl, h6, hS1⟩ := hS.cons
  obtain ⟨V2, sr, rfl, h7, hS2⟩ := hS1.cons
  obtain ⟨V3, sr, rfl, h8, hS3⟩ := hS2.cons
  obtain ⟨V4, sr, rfl, h10, hS4⟩ := hS3.cons
  obtain ⟨V5, sr, rfl, ⟨qa, rfl, hqa⟩, hS5⟩ := hS4.cons
  obtain ⟨ha75, ea, hea, hEa⟩ := hW.cell hKc hqa (by omega) (by omega) (by omega) (by omega)
  unfold zE at hEa
  split at hEa
  · obtain ⟨-, -, h3⟩ := hEa
    split at h3
    · omega
    · omega
    · omega
    · exact h3.elim
  · omega
theorem zv203 {x : Nat} {n : Int32} {w9 : Value} (hv : zv (.invokestatic x) [203] i ls (.int n :: w9 :: st) S K) : ∃ dp b sp a u, w9 = .int dp ∧ st = .ref b :: .int sp :: .ref a :: u ∧ zc S a = 203 := by
  cases w9 with
  | int dp =>
    rcases st with _ | ⟨v3, _ | ⟨v4, _ | ⟨v5, u⟩⟩⟩
    · exact hv.elim
    · cases v3 <;> exact hv.elim
    · cases v3 <;> cases v4 <;> exact hv.elim
    · cases v3 with
      | ref b => cases v4 with
        | int sp => cases v5 with
          | ref a =>
            have hw : (match (generalizing := false) Nat.ble u.length 40 with
              | true => zc S a = 203 ∧ zc S b = 100 ∧ ¬ sp < 0 ∧ ¬ dp < 0 ∧ ¬ n < 0 ∧ sp.toNatClampNeg + n.toNatClampNeg ≤ zn S a ∧ dp.toNatClampNeg + n.toNatClampNeg ≤ zn S b ∧
                K (i + 1) ls u (zwI S b (va_cpy (zI S a) (zI S b) sp.toNatClampNeg dp.toNatClampNeg n.toNatClampNeg))
              | false => False) := hv
            split at hw
            · exact ⟨dp, b, sp, a, u, rfl, rfl, hw.1⟩
            · exact hw.elim
          | _ => exact hv.elim
        | _ => exact hv.elim
      | _ => exact hv.elim
  | _ => exact hv.elim
theorem zmax_link {own x : Nat} (hw : zP_max.any (fun q => q.2 == (own, x)) = true) : Cond.methodLink (zcn own) x Lib.Math.max.name ∈ zTB := by
  obtain ⟨⟨j, q⟩, hq, he⟩ := List.any_eq_true.mp hw
  have he : q = (own, x) := by simpa using he
  subst he
  exact zhas_in (List.all_eq_true.mp zP_max_ok _ hq)
theorem zs_max {ix : Nat} {x y : Int32} (C : zCx p l R s m args meth c M cad S0 A) (hp : zpcOf M i = pc) (hd : decode (zmCode M) pc = .ok (.invokestatic ix, 3)) (hn : zpcOf M (i + 1) = pc + 3) (hw : zP_max.any (fun q => q.2 == (zmOwn M, ix)) = true) (hst : st.length ≤ 40)
    (k : zu S - c0 ≤ R.cells ∧ zz S - z0 ≤ R.slots ∧ zGo p l e R s m args below meth c Q M cad tc D S0 A ws0 c0 z0 (i + 1) ls (.int (if x < y then y else x) :: st) S) : zGo p l e R s m args below meth c Q M cad tc D S0 A ws0 c0 z0 i ls (.int y :: .int x :: st) S := by
  obtain ⟨hx, hb, hml, hown, hts, hlk, hrt, hin, htr, hA, hKc, hKw, htab, hRf, hRl⟩ := C
  obtain ⟨k1, k2, k3⟩ := k
  intro ws H locs ar sr hW hL hl hS hc hz
  obtain ⟨V1, sr, rfl, h6, hS1⟩ := hS.cons
  clear hS
  cases h6
  obtain ⟨V2, sr, rfl, h7, hS2⟩ := hS1.cons
  clear hS1
  cases h7
  have hcat := hS2.cats
  have h9 := k3 ws H locs ar (.int (if x < y then y else x) :: sr) hW hL hl ⟨rfl, hS2⟩ hc hz
  rw [hn] at h9
  rw [hp]
  exact va_mmax hx hb (by rw [hml, ← hl, hL.1]) hown (hts _ (zmax_link hw)) (hts _ zx_maxs) (hts _ zx_mini) (hts _ zx_maxc) (by omega) (by omega) k1 k2 hd h9
theorem zt_max {x : Nat} (C : zCx p l R s m args meth c M cad S0 A) (hp : zpcOf M i = pc) (hd : decode (zmCode M) pc = .ok (.invokestatic x, len)) (hck : zchk M i (pc, .invokestatic x, len, [201]) = true) (hv : zv (.invokestatic x) [201] i ls st S K)
    (hK : ∀ i1 l1 s1 S1, K i1 l1 s1 S1 → zu S1 - c0 ≤ R.cells ∧ zz S1 - z0 ≤ R.slots ∧ zGo p l e R s m args below meth c Q M cad tc D S0 A ws0 c0 z0 i1 l1 s1 S1) : zGo p l e R s m args below meth c Q M cad tc D S0 A ws0 c0 z0 i ls st S := by
  have hck : (Nat.beq len 3 && (znx M i pc 3 && zP_max.any (fun q => q.2 == (zmOwn M, x)))) = true := hck
  obtain ⟨h1, h20⟩ := zand hck
  obtain ⟨h2, h3⟩ := zand h20
  obtain rfl : len = 3 := Nat.eq_of_beq_eq_true h1
  rcases st with _ | ⟨v, _ | ⟨w, st⟩⟩
  · exact hv.elim
  · cases v <;> exact hv.elim
  · cases v with
    | int y => cases w with
      | int x9 =>
        have hw : (match (generalizing := false) Nat.ble st.length 40 with
          | true => K (i + 1) ls (.int (if x9 < y then y else x9) :: st) S
          | false => False) := hv
        clear hv
        split at hw
        · rename_i hb9
          exact zs_max C hp hd (znx_spec h2) h3 (Nat.le_of_ble_eq_true hb9) (hK _ _ _ _ hw)
        · exact hw.elim
      | _ => exact hv.elim
    | _ => exact hv.elim
theorem zmin_link {own x : Nat} (hw : zP_min.any (fun q => q.2 == (own, x)) = true) : Cond.methodLink (zcn own) x Lib.Math.min.name ∈ zTB := by
  obtain ⟨⟨j, q⟩, hq, he⟩ := List.any_eq_true.mp hw
  have he : q = (own, x) := by simpa using he
  subst he
  exact zhas_in (List.all_eq_true.mp zP_min_ok _ hq)
theorem zs_min {ix : Nat} {x y : Int32} (C : zCx p l R s m args meth c M cad S0 A) (hp : zpcOf M i = pc) (hd : decode (zmCode M) pc = .ok (.invokestatic ix, 3)) (hn : zpcOf M (i + 1) = pc + 3) (hw : zP_min.any (fun q => q.2 == (zmOwn M, ix)) = true) (hst : st.length ≤ 40)
    (k : zu S - c0 ≤ R.cells ∧ zz S - z0 ≤ R.slots ∧ zGo p l e R s m args below meth c Q M cad tc D S0 A ws0 c0 z0 (i + 1) ls (.int (if y < x then y else x) :: st) S) : zGo p l e R s m args below meth c Q M cad tc D S0 A ws0 c0 z0 i ls (.int y :: .int x :: st) S := by
  obtain ⟨hx, hb, hml, hown, hts, hlk, hrt, hin, htr, hA, hKc, hKw, htab, hRf, hRl⟩ := C
  obtain ⟨k1, k2, k3⟩ := k
  intro ws H locs ar sr hW hL hl hS hc hz
  obtain ⟨V1, sr, rfl, h6, hS1⟩ := hS.cons
  clear hS
  cases h6
  obtain ⟨V2, sr, rfl, h7, hS2⟩ := hS1.cons
  clear hS1
  cases h7
  have hcat := hS2.cats
  have h9 := k3 ws H locs ar (.int (if y < x then y else x) :: sr) hW hL hl ⟨rfl, hS2⟩ hc hz
  rw [hn] at h9
  rw [hp]
  exact va_mmin hx hb (by rw [hml, ← hl, hL.1]) hown (hts _ (zmin_link hw)) (hts _ zx_mins) (hts _ zx_mini) (hts _ zx_minc) (by omega) (by omega) k1 k2 hd h9
theorem zt_min {x : Nat} (C : zCx p l R s m args meth c M cad S0 A) (hp : zpcOf M i = pc) (hd : decode (zmCode M) pc = .ok (.invokestatic x, len)) (hck : zchk M i (pc, .invokestatic x, len, [202]) = true) (hv : zv (.invokestatic x) [202] i ls st S K)
    (hK : ∀ i1 l1 s1 S1, K i1 l1 s1 S1 → zu S1 - c0 ≤ R.cells ∧ zz S1 - z0 ≤ R.slots ∧ zGo p l e R s m args below meth c Q M cad tc D S0 A ws0 c0 z0 i1 l1 s1 S1) : zGo p l e R s m args below meth c Q M cad tc D S0 A ws0 c0 z0 i ls st S := by
  have hck : (Nat.beq len 3 && (znx M i pc 3 && zP_min.any (fun q => q.2 == (zmOwn M, x)))) = true := hck
  obtain ⟨h1, h20⟩ := zand hck
  obtain ⟨h2, h3⟩ := zand h20
  obtain rfl : len = 3 := Nat.eq_of_beq_eq_true h1
  rcases st with _ | ⟨v, _ | ⟨w, st⟩⟩
  · exact hv.elim
  · cases v <;> exact hv.elim
  · cases v with
    | int y => cases w with
      | int x9 =>
        have hw : (match (generalizing := false) Nat.ble st.length 40 with
          | true => K (i + 1) ls (.int (if y < x9 then y else x9) :: st) S
          | false => False) := hv
        clear hv
        split at hw
        · rename_i hb9
          exact zs_min C hp hd (znx_spec h2) h3 (Nat.le_of_ble_eq_true hb9) (hK _ _ _ _ hw)
        · exact hw.elim
      | _ => exact hv.elim
    | _ => exact hv.elim
theorem zminL_link {own x : Nat} (hw : zP_minL.any (fun q => q.2 == (own, x)) = true) : Cond.methodLink (zcn own) x Lib.MathLoose.min_long.x ∈ zTB := by
  obtain ⟨⟨j, q⟩, hq, he⟩ := List.any_eq_true.mp hw
  have he : q = (own, x) := by simpa using he
  subst he
  exact zhas_in (List.all_eq_true.mp zP_minL_ok _ hq)
theorem zs_minL {ix : Nat} {x y : Int64} (C : zCx p l R s m args meth c M cad S0 A) (hp : zpcOf M i = pc) (hd : decode (zmCode M) pc = .ok (.invokestatic ix, 3)) (hn : zpcOf M (i + 1) = pc + 3) (hw : zP_minL.any (fun q => q.2 == (zmOwn M, ix)) = true) (hst : st.length ≤ 40)
    (k : zu S - c0 ≤ R.cells ∧ zz S - z0 ≤ R.slots ∧ zGo p l e R s m args below meth c Q M cad tc D S0 A ws0 c0 z0 (i + 1) ls (.long (if y < x then y else x) :: st) S) : zGo p l e R s m args below meth c Q M cad tc D S0 A ws0 c0 z0 i ls (.long y :: .long x :: st) S := by
  obtain ⟨hx, hb, hml, hown, hts, hlk, hrt, hin, htr, hA, hKc, hKw, htab, hRf, hRl⟩ := C
  obtain ⟨k1, k2, k3⟩ := k
  intro ws H locs ar sr hW hL hl hS hc hz
  obtain ⟨V1, sr, rfl, h6, hS1⟩ := hS.cons
  clear hS
  cases h6
  obtain ⟨V2, sr, rfl, h7, hS2⟩ := hS1.cons
  clear hS1
  cases h7
  have hcat := hS2.cats
  have h9 := k3 ws H locs ar (.long (if y < x then y else x) :: sr) hW hL hl ⟨rfl, hS2⟩ hc hz
  rw [hn] at h9
  rw [hp]
  exact va_mmin_long hx hb (by rw [hml, ← hl, hL.1]) hown (hts _ (zminL_link hw)) (hts _ zx_minLs) (hts _ zx_mini) (hts _ zx_minLc) (by omega) (by omega) k1 k2 hd h9
theorem zt_minL {x : Nat} (C : zCx p l R s m args meth c M cad S0 A) (hp : zpcOf M i = pc) (hd : decode (zmCode M) pc = .ok (.invokestatic x, len)) (hck : zchk M i (pc, .invokestatic x, len, [203]) = true) (hv : zv (.invokestatic x) [203] i ls st S K)
    (hK : ∀ i1 l1 s1 S1, K i1 l1 s1 S1 → zu S1 - c0 ≤ R.cells ∧ zz S1 - z0 ≤ R.slots ∧ zGo p l e R s m args below meth c Q M cad tc D S0 A ws0 c0 z0 i1 l1 s1 S1) : zGo p l e R s m args below meth c Q M cad tc D S0 A ws0 c0 z0 i ls st S := by
  have hck : (Nat.beq len 3 && (znx M i pc 3 && zP_minL.any (fun q => q.2 == (zmOwn M, x)))) = true := hck
  obtain ⟨h1, h20⟩ := zand hck
  obtain ⟨h2, h3⟩ := zand h20
  obtain rfl : len = 3 := Nat.eq_of_beq_eq_true h1
  rcases st with _ | ⟨v, _ | ⟨w, st⟩⟩
  · exact hv.elim
  · cases v <;> exact hv.elim
  · cases v with
    | long y => cases w with
      | long x9 =>
        have hw : (match (generalizing := false) Nat.ble st.length 40 with
          | true => K (i + 1) ls (.long (if y < x9 then y else x9) :: st) S
          | false => False) := hv
        clear hv
        split at hw
        · rename_i hb9
          exact zs_minL C hp hd (znx_spec h2) h3 (Nat.le_of_ble_eq_true hb9) (hK _ _ _ _ hw)
        · exact hw.elim
      | _ => exact hv.elim
    | int n => exact zs_no203 C (zv203 hv)
    | _ => exact hv.elim
end ZMath
