/-! The store's fixed part: the cells that the constructors make; stretches of code over it -/
def zTcL : List (List Nat) := [[105, 104, 104, 104, 104, 104, 104, 15, 103, 15, 103, 15, 103, 15, 103, 15],
  [103, 15, 103, 15, 103, 15, 103, 15, 103, 15, 103, 15, 103, 15, 103, 15],
  [103, 15, 103, 15, 103, 15, 103, 15, 103, 15, 103, 15, 103, 15, 103, 15],
  [103, 15, 103, 15, 103, 15, 103, 15, 103, 15, 103, 15, 103, 15, 103, 15],
  [103, 15, 103, 15, 103, 15, 103, 15, 103, 15, 103, 11, 4, 100, 8, 100],
  [102, 10, 9, 100, 100, 100, 6, 100, 100, 100, 119, 115, 3, 100, 100, 100],
  [100, 100, 100, 100, 100, 100, 100, 100, 113, 100, 1, 100, 100, 100, 7, 1],
  [100, 100, 100, 100, 100, 100, 100, 9, 100, 100, 100, 2, 100, 0, 100, 100],
  [100, 100, 12, 100, 100, 100, 100, 100, 100, 100, 100, 100, 100, 100, 100, 100],
  [100, 100, 100, 100, 100, 100, 100, 100, 100, 100, 100, 100, 100, 100, 101, 101],
  [100, 101]]
def zTc (a : Nat) : Nat := (zTcL.getD (a / 16) []).getD (a % 16) 999
def zTnL : List (List Nat) := [[0, 6, 4, 4, 12, 12, 18, 0, 19, 0, 2, 0, 3, 0, 15, 0],
  [4, 0, 3, 0, 6, 0, 35, 0, 54, 0, 5, 0, 6, 0, 4, 0],
  [5, 0, 5, 0, 5, 0, 3, 0, 4, 0, 4, 0, 4, 0, 5, 0],
  [2, 0, 4, 0, 4, 0, 5, 0, 2, 0, 3, 0, 3, 0, 3, 0],
  [3, 0, 2, 0, 4, 0, 3, 0, 3, 0, 2, 0, 0, 400, 0, 6],
  [6, 0, 0, 24, 24, 24, 0, 400, 400, 32, 6, 6, 0, 6, 12, 24],
  [4, 12, 24, 24, 36, 36, 36, 10, 3, 4, 0, 12, 12, 24, 0, 0],
  [12, 12, 24, 36, 36, 36, 3, 0, 24, 24, 24, 0, 16, 0, 4096, 64],
  [64, 4, 0, 4, 225, 675, 400, 6, 7, 168, 168, 168, 2500, 2500, 6, 78],
  [420, 12, 12, 24, 60, 60, 60, 3, 3, 3, 3, 3, 4, 16, 4, 4],
  [4096, 1]]
def zTn (a : Nat) : Nat := (zTnL.getD (a / 16) []).getD (a % 16) 0
def zTrL : List (List (List (Option Nat))) := [[[], [], [], [], [], [], [], [some 8], [], [some 10], [], [some 12], [], [some 14], [], [some 16]],
  [[], [some 18], [], [some 20], [], [some 22], [], [some 24], [], [some 26], [], [some 28], [], [some 30], [], [some 32]],
  [[], [some 34], [], [some 36], [], [some 38], [], [some 40], [], [some 42], [], [some 44], [], [some 46], [], [some 48]],
  [[], [some 50], [], [some 52], [], [some 54], [], [some 56], [], [some 58], [], [some 60], [], [some 62], [], [some 64]],
  [[], [some 66], [], [some 68], [], [some 70], [], [some 72], [], [some 74], [], [some 76, some 78, some 81, some 86, some 90, some 91, none, none, some 92, some 104, none, some 105, some 106, some 110, some 123, some 125], [some 77], [], [some 79, some 80], []],
  [[], [some 82], [some 83, some 84, some 85], [], [], [], [some 87, some 88, none, some 89], [], [], [], [], [], [some 93, some 94, some 95, none, some 96, some 97, some 98, some 99, some 100, some 101, some 102, some 103], [], [], []],
  [[], [], [], [], [], [], [], [], [], [], [some 107, some 108, some 109], [], [], [], [some 111, some 115, some 116, some 117, none, some 118, some 119], [some 112, some 113, some 114]],
  [[], [], [], [], [], [], [], [some 120, some 121, some 122], [], [], [], [none, none, none, some 124], [], [some 126, none, none, some 129], [], []],
  [[], [], [none, some 131, some 132, some 133, none, none, none, none, none, none, none, none, some 134, some 135, none, none, some 136, some 137, some 138, some 139, none, some 140, some 141, some 142, some 143, some 144, some 145, some 146, some 147, none, none, none, none, none, none, none, none, none, none, none, some 148, some 149, some 150, some 151, none, none, none, some 152, some 153, some 154, some 155, none, none, none, some 156, some 157, some 158, some 159, none, some 160], [], [], [], [], [], [], [], [], [], [], [], [], []],
  [[], [], [], [], [], [], [], [], [], [], [], [], [], [], [], []],
  [[], []]]
def zTr (a k : Nat) : Option Nat := ((zTrL.getD (a / 16) []).getD (a % 16) []).getD k none
theorem zTcL_len : zTcL.length = 11 := rfl
theorem zTrL_len : zTrL.length = 11 := rfl
theorem zgetD_out {α : Type} {l : List α} {k : Nat} {d : α} (h : l.length ≤ k) : l.getD k d = d := by
  rw [List.getD_eq_getElem?_getD, List.getElem?_eq_none h]
  rfl
theorem zTc_lt {a c : Nat} (h : zTc a = c) (hc : c ≠ 999) : a < 162 := by
  by_cases ha : a < 176
  · have hall : (List.range 176).all (fun a => decide (zTc a = 999 ∨ a < 162)) = true := by decide +kernel
    rcases of_decide_eq_true (List.all_eq_true.mp hall a (List.mem_range.mpr ha)) with h1 | h1
    · exact absurd (h.symm.trans h1) hc
    · exact h1
  · unfold zTc at h
    rw [zgetD_out (l := zTcL) (by rw [zTcL_len]; omega)] at h
    exact absurd h.symm hc
theorem zTr_big {a k : Nat} (ha : 162 ≤ a) : zTr a k = none := by
  by_cases h6 : a < 176
  · have hall : (List.range 176).all (fun a => decide (((zTrL.getD (a / 16) []).getD (a % 16) []) = [] ∨ a < 162)) = true := by decide +kernel
    rcases of_decide_eq_true (List.all_eq_true.mp hall a (List.mem_range.mpr h6)) with h1 | h1
    · unfold zTr
      rw [h1]
      rfl
    · omega
  · unfold zTr
    rw [zgetD_out (l := zTrL) (by rw [zTrL_len]; omega)]
    rfl
/-- the fixed part is as it was made -/
def zSh (S : ZSt) : Prop := (∀ k, k < 162 → zc S k = zTc k) ∧ (∀ k, 0 < k → k < 162 → zn S k = zTn k) ∧ (∀ k j q, zTr k j = some q → zR S k j = some q) ∧ 162 ≤ zx S
theorem zSh.I {S : ZSt} (h : zSh S) (a : Nat) (f : Nat → Int32) : zSh (zwI S a f) := h
theorem zSh.L {S : ZSt} (h : zSh S) (a : Nat) (f : Nat → Int64) : zSh (zwL S a f) := h
theorem zSh.R {S : ZSt} (h : zSh S) {a k : Nat} {v : Option Nat} (hn : zTr a k = none) : zSh (zsR S a k v) := by
  obtain ⟨h1, h2, h3, h4⟩ := h
  refine ⟨h1, h2, fun c j q hq => ?_, h4⟩
  show va_up (zR S) a (va_up (zR S a) k v) c j = some q
  by_cases hc : c = a
  · subst hc
    rw [show va_up (zR S) c (va_up (zR S c) k v) c = va_up (zR S c) k v from va_up_self _ _ _]
    by_cases hj : j = k
    · subst hj
      rw [hn] at hq
      cases hq
    · rw [zup_ne hj]
      exact h3 c j q hq
  · rw [zup_ne hc]
    exact h3 c j q hq
theorem zSh.N {S : ZSt} (h : zSh S) (t n sl : Nat) (f : Nat → Int32) : zSh (zNew S t n sl f) := by
  obtain ⟨h1, h2, h3, h4⟩ := h
  refine ⟨fun k hk => ?_, fun k h0 hk => ?_, fun k j q hq => ?_, Nat.le_succ_of_le h4⟩
  · rw [(zNew_o (show k ≠ zx S by omega)).2.2.2.2]
    exact h1 k hk
  · rw [(zNew_o (show k ≠ zx S by omega)).2.2.2.1]
    exact h2 k h0 hk
  · have hk : k < 162 := by
      by_cases hk : k < 162
      · exact hk
      · rw [zTr_big (by omega)] at hq
        cases hq
    rw [(zNew_o (show k ≠ zx S by omega)).2.2.1]
    exact h3 k j q hq
theorem zSh.T {S : ZSt} (h : zSh S) : zSh (zThr S) := h
/-! plain instructions keep it, but writes of references -/
def ZPs (S : ZSt) (F : ZNx → Prop) : Prop := ∀ K : ZNx, F K → F (fun i ls st S1 => K i ls st S1 ∧ (zSh S → zSh S1))
theorem zps_at {S S1 : ZSt} {i : Nat} {ls : ZLo} {st : List Value} (h : zSh S → zSh S1) : ZPs S (fun K => K i ls st S1) := fun _ hK => ⟨hK, h⟩
theorem zps_and {S : ZSt} {P : Prop} {F : ZNx → Prop} (hF : ZPs S F) : ZPs S (fun K => P ∧ F K) := fun K h => ⟨h.1, hF K h.2⟩
theorem zps_no {S : ZSt} : ZPs S (fun _ => False) := fun _ h => h.elim
theorem zps_if {S : ZSt} {P : Prop} {F G : ZNx → Prop} (hF : ZPs S F) (hG : ZPs S G) : ZPs S (fun K => (P → F K) ∧ (¬ P → G K)) := fun K h => ⟨fun hP => hF K (h.1 hP), fun hP => hG K (h.2 hP)⟩
theorem zps_opt {S : ZSt} {x : Option Nat} {F : ZNx → Prop} {G : Nat → ZNx → Prop} (hF : ZPs S F) (hG : ∀ q, ZPs S (G q)) : ZPs S (fun K => (x = none → F K) ∧ ∀ q, x = some q → G q K) := fun K h => ⟨fun hx => hF K (h.1 hx), fun q hx => hG q K (h.2 q hx)⟩
theorem zps_ex {S : ZSt} {x : Option Nat} {G : Nat → ZNx → Prop} (hG : ∀ q, ZPs S (G q)) : ZPs S (fun K => ∃ q, x = some q ∧ G q K) := fun K h => by
  obtain ⟨q, e, h⟩ := h
  exact ⟨q, e, hG q K h⟩
theorem zps_sw {x : Int32} {lo dt : Nat} {ts : List Nat} {ls : ZLo} {st : List Value} {S : ZSt} :
    ZPs S (fun K => zsw x (fun tg => K tg ls st S) lo ts ∧ (x.toInt < (lo : Int) ∨ (lo : Int) + ts.length ≤ x.toInt → K dt ls st S)) :=
  fun K h => ⟨zsw_imp ts lo h.1 (fun tg h9 => ⟨h9, id⟩), fun h9 => ⟨h.2 h9, id⟩⟩
theorem zps_st1 (k i : Nat) (ls : ZLo) (v : Value) (st : List Value) (S : ZSt) : ZPs S (zst1 k i ls v st S) := by
  unfold zst1
  split
  · exact zps_at id
  · exact zps_no
/-- no reference is written -/
def znw (ins : Instr) (r : List Nat) : Bool := match ins, r with
  | .putfield _, [_, _, 2] => false
  | .aastore, _ => false
  | _, _ => true
set_option maxHeartbeats 4000000 in
theorem zps (ins : Instr) (r : List Nat) (i : Nat) (ls : ZLo) (st : List Value) (S : ZSt) (hw : znw ins r = true) : ZPs S (zv ins r i ls st S) := by
  cases ins <;> first
    | exact zps_no
    | exact zps_at id
    | (cases hw; done)
    | (show ZPs S (fun K => zv _ r i ls st S K); simp only [zv, zld, zst, zbin, zbinL, zshL, zget, zput, zald]; split <;> first
        | exact zps_no
        | exact zps_at id
        | exact zps_st1 _ _ _ _ _ _
        | exact zps_and (zps_at id)
        | exact zps_and (zps_and (zps_at id))
        | exact zps_and (zps_and (zps_and (zps_at id)))
        | exact zps_and (zps_ex fun _ => zps_at id)
        | exact zps_if (zps_at id) (zps_at id)
        | exact zps_and (zps_and (zps_opt (zps_at id) fun _ => zps_at id))
        | exact zps_at (fun h => h.N _ _ _ _)
        | exact zps_and (zps_and (zps_at (fun h => h.N _ _ _ _)))
        | (cases hw; done)
        | (split
           · first
             | exact zps_at id
             | exact zps_and (zps_at (fun h => h.N _ _ _ _))
             | exact zps_and (zps_and (zps_and (zps_and (zps_and (zps_and (zps_and (zps_at id)))))))
             | exact zps_sw
           · exact zps_no))
/-- an instruction on cells that aren't fixed -/
def zvG (ins : Instr) (r : List Nat) (i : Nat) (ls : ZLo) (st : List Value) (S : ZSt) (K : ZNx) : Prop := match ins with
  | .putfield _ => (match r, st with
    | [ci, k, 2], .ref v :: .ref a :: t => zTr a k = none ∧ zc S a = ci ∧ K (i + 1) ls t (zsR S a k (some v))
    | [_, _, 0], _ => zput r i ls st S K
    | [_, _, 1], _ => zput r i ls st S K
    | [_, _, 3], _ => zput r i ls st S K
    | _, _ => False)
  | .aastore => (match r, st with
    | [tg, ci], .ref v :: .int j :: .ref a :: t => zTr a j.toNatClampNeg = none ∧ zc S a = tg ∧ zc S v = ci ∧ vp_in j (zn S a) ∧ K (i + 1) ls t (zsR S a j.toNatClampNeg (some v))
    | _, _ => False)
  | _ => zv ins r i ls st S K
/-- an instruction, its cells fixed ones -/
def zvF (ins : Instr) (r : List Nat) (i : Nat) (ls : ZLo) (st : List Value) (S : ZSt) (K : ZNx) : Prop := match ins with
  | .getfield _ => (match r, st with
    | [ci, k, 0], .ref a :: t => (match Nat.beq (zTc a) ci && Nat.blt ci 20 with
      | true => K (i + 1) ls (.int (zI S a k) :: t) S
      | false => False)
    | [ci, k, 1], .ref a :: t => (match Nat.beq (zTc a) ci && Nat.blt ci 20 with
      | true => K (i + 1) ls (.long (zL S a k) :: t) S
      | false => False)
    | [ci, k, 2], .ref a :: t => (match Nat.beq (zTc a) ci && Nat.blt ci 20, zTr a k with
      | true, some q => K (i + 1) ls (.ref q :: t) S
      | _, _ => False)
    | _, _ => False)
  | .putfield _ => (match r, st with
    | [ci, k, 0], .int v :: .ref a :: t => (match Nat.beq (zTc a) ci && Nat.blt ci 20 with
      | true => K (i + 1) ls t (zsI S a k v)
      | false => False)
    | [ci, k, 3], .int v :: .ref a :: t => (match Nat.beq (zTc a) ci && Nat.blt ci 20 with
      | true => (v = 0 ∨ v = 1) ∧ K (i + 1) ls t (zsI S a k v)
      | false => False)
    | [ci, k, 1], .long v :: .ref a :: t => (match Nat.beq (zTc a) ci && Nat.blt ci 20 with
      | true => K (i + 1) ls t (zsL S a k v)
      | false => False)
    | _, _ => False)
  | .iaload => (match r, st with
    | [tg], .int j :: .ref a :: t => (match Nat.blt 0 a && (Nat.beq (zTc a) tg && Nat.blt tg 200) with
      | true => vp_in j (zTn a) ∧ K (i + 1) ls (.int (zI S a j.toNatClampNeg) :: t) S
      | false => False)
    | _, _ => False)
  | .baload => (match r, st with
    | [tg], .int j :: .ref a :: t => (match Nat.blt 0 a && (Nat.beq (zTc a) tg && Nat.blt tg 200) with
      | true => vp_in j (zTn a) ∧ K (i + 1) ls (.int (zI S a j.toNatClampNeg) :: t) S
      | false => False)
    | _, _ => False)
  | .laload => (match st with
    | .int j :: .ref a :: t => (match Nat.blt 0 a && Nat.beq (zTc a) 101 with
      | true => vp_in j (zTn a) ∧ K (i + 1) ls (.long (zL S a j.toNatClampNeg) :: t) S
      | false => False)
    | _ => False)
  | .iastore => (match st with
    | .int v :: .int j :: .ref a :: t => (match Nat.blt 0 a && Nat.beq (zTc a) 100 with
      | true => vp_in j (zTn a) ∧ K (i + 1) ls t (zsI S a j.toNatClampNeg v)
      | false => False)
    | _ => False)
  | .bastore => (match st with
    | .int v :: .int j :: .ref a :: t => (match Nat.blt 0 a && Nat.beq (zTc a) 102 with
      | true => vp_in j (zTn a) ∧ K (i + 1) ls t (zsI S a j.toNatClampNeg (vp_nar .boolean v))
      | false => False)
    | _ => False)
  | .lastore => (match st with
    | .long v :: .int j :: .ref a :: t => (match Nat.blt 0 a && Nat.beq (zTc a) 101 with
      | true => vp_in j (zTn a) ∧ K (i + 1) ls t (zsL S a j.toNatClampNeg v)
      | false => False)
    | _ => False)
  | .arraylength => (match r, st with
    | [tg], .ref a :: t => (match Nat.blt 0 a && (Nat.beq (zTc a) tg && Nat.blt tg 200) with
      | true => K (i + 1) ls (.int (nI (zTn a)) :: t) S
      | false => False)
    | _, _ => False)
  | .aastore => False
  | .aaload => False
  | _ => zv ins r i ls st S K
/-- where it goes on, and that the fixed part stays -/
def ZGo (ins : Instr) (r : List Nat) (i : Nat) (ls : ZLo) (st : List Value) (S : ZSt) (K : ZNx) : Prop := ∃ i1 l1 s1 S1, K i1 l1 s1 S1 ∧ zSh S1 ∧ ∀ K' : ZNx, K' i1 l1 s1 S1 → zv ins r i ls st S K'
theorem ZGo_of {ins : Instr} {r : List Nat} {i : Nat} {ls : ZLo} {st : List Value} {S : ZSt} {K : ZNx} (hS : zSh S) (hw : znw ins r = true) (h : zv ins r i ls st S K) : ZGo ins r i ls st S K := by
  obtain ⟨i1, l1, s1, S1, ⟨h1, h2⟩, h3⟩ := zpt ins r i ls st S _ (zps ins r i ls st S hw K h)
  exact ⟨i1, l1, s1, S1, h1, h2 hS, h3⟩
theorem zTab2 {a c : Nat} {b : Bool} (h : (Nat.beq (zTc a) c && b) = true) (hc : c ≠ 999) {S : ZSt} (hS : zSh S) : zc S a = c := by
  have h1 := Nat.eq_of_beq_eq_true (zand h).1
  rw [hS.1 a (zTc_lt h1 hc), h1]
theorem zTab3 {a c : Nat} {b : Bool} (h : (Nat.blt 0 a && (Nat.beq (zTc a) c && b)) = true) (hc : c ≠ 999) {S : ZSt} (hS : zSh S) : zc S a = c ∧ zn S a = zTn a := by
  obtain ⟨h0, h1⟩ := zand h
  have h2 := Nat.eq_of_beq_eq_true (zand h1).1
  exact ⟨zTab2 h1 hc hS, hS.2.1 a (Nat.le_of_ble_eq_true h0) (zTc_lt h2 hc)⟩
theorem zTab4 {a c : Nat} (h : (Nat.blt 0 a && Nat.beq (zTc a) c) = true) (hc : c ≠ 999) {S : ZSt} (hS : zSh S) : zc S a = c ∧ zn S a = zTn a := by
  obtain ⟨h0, h1⟩ := zand h
  have h2 := Nat.eq_of_beq_eq_true h1
  exact ⟨by rw [hS.1 a (zTc_lt h2 hc), h2], hS.2.1 a (Nat.le_of_ble_eq_true h0) (zTc_lt h2 hc)⟩
theorem zlt_ne {c n : Nat} {b : Bool} (h : (b && Nat.blt c n) = true) (hn : n ≤ 999) : c ≠ 999 := by
  have h1 : c < n := Nat.le_of_ble_eq_true (zand h).2
  omega
set_option maxHeartbeats 4000000 in
theorem zvG_go {ins : Instr} {r : List Nat} {i : Nat} {ls : ZLo} {st : List Value} {S : ZSt} {K : ZNx} (hS : zSh S) (h : zvG ins r i ls st S K) : ZGo ins r i ls st S K := by
  unfold zvG at h
  split at h
  · split at h
    · obtain ⟨h1, h2, h3⟩ := h
      exact ⟨_, _, _, _, h3, hS.R h1, fun K' h9 => ⟨h2, h9⟩⟩
    · exact ZGo_of hS rfl h
    · exact ZGo_of hS rfl h
    · exact ZGo_of hS rfl h
    · exact h.elim
  · split at h
    · obtain ⟨h1, h2, h3, h4, h5⟩ := h
      exact ⟨_, _, _, _, h5, hS.R h1, fun K' h9 => ⟨h2, h3, h4, h9⟩⟩
    · exact h.elim
  · rename_i hp ha
    refine ZGo_of hS ?_ h
    unfold znw
    split
    · exact absurd rfl (hp _)
    · exact absurd rfl ha
    · rfl
set_option maxHeartbeats 4000000 in
theorem zvF_go {ins : Instr} {r : List Nat} {i : Nat} {ls : ZLo} {st : List Value} {S : ZSt} {K : ZNx} (hS : zSh S) (h : zvF ins r i ls st S K) : ZGo ins r i ls st S K := by
  unfold zvF at h
  split at h
  · split at h
    · split at h
      · rename_i hc
        exact ⟨_, _, _, _, h, hS, fun K' h9 => ⟨zTab2 hc (zlt_ne hc (by omega)) hS, h9⟩⟩
      · exact h.elim
    · split at h
      · rename_i hc
        exact ⟨_, _, _, _, h, hS, fun K' h9 => ⟨zTab2 hc (zlt_ne hc (by omega)) hS, h9⟩⟩
      · exact h.elim
    · split at h
      · rename_i hc hr
        exact ⟨_, _, _, _, h, hS, fun K' h9 => ⟨zTab2 hc (zlt_ne hc (by omega)) hS, _, hS.2.2.1 _ _ _ hr, h9⟩⟩
      · exact h.elim
    · exact h.elim
  · split at h
    · split at h
      · rename_i hc
        exact ⟨_, _, _, _, h, hS.I _ _, fun K' h9 => ⟨zTab2 hc (zlt_ne hc (by omega)) hS, h9⟩⟩
      · exact h.elim
    · split at h
      · rename_i hc
        exact ⟨_, _, _, _, h.2, hS.I _ _, fun K' h9 => ⟨zTab2 hc (zlt_ne hc (by omega)) hS, h.1, h9⟩⟩
      · exact h.elim
    · split at h
      · rename_i hc
        exact ⟨_, _, _, _, h, hS.L _ _, fun K' h9 => ⟨zTab2 hc (zlt_ne hc (by omega)) hS, h9⟩⟩
      · exact h.elim
    · exact h.elim
  · split at h
    · split at h
      · rename_i hc
        obtain ⟨g1, g2⟩ := zTab3 hc (zlt_ne (zand hc).2 (by omega)) hS
        exact ⟨_, _, _, _, h.2, hS, fun K' h9 => ⟨g1, by rw [g2]; exact h.1, h9⟩⟩
      · exact h.elim
    · exact h.elim
  · split at h
    · split at h
      · rename_i hc
        obtain ⟨g1, g2⟩ := zTab3 hc (zlt_ne (zand hc).2 (by omega)) hS
        exact ⟨_, _, _, _, h.2, hS, fun K' h9 => ⟨g1, by rw [g2]; exact h.1, h9⟩⟩
      · exact h.elim
    · exact h.elim
  · split at h
    · split at h
      · rename_i hc
        obtain ⟨g1, g2⟩ := zTab4 hc (by omega) hS
        exact ⟨_, _, _, _, h.2, hS, fun K' h9 => ⟨g1, by rw [g2]; exact h.1, h9⟩⟩
      · exact h.elim
    · exact h.elim
  · split at h
    · split at h
      · rename_i hc
        obtain ⟨g1, g2⟩ := zTab4 hc (by omega) hS
        exact ⟨_, _, _, _, h.2, hS.I _ _, fun K' h9 => ⟨g1, by rw [g2]; exact h.1, h9⟩⟩
      · exact h.elim
    · exact h.elim
  · split at h
    · split at h
      · rename_i hc
        obtain ⟨g1, g2⟩ := zTab4 hc (by omega) hS
        exact ⟨_, _, _, _, h.2, hS.I _ _, fun K' h9 => ⟨g1, by rw [g2]; exact h.1, h9⟩⟩
      · exact h.elim
    · exact h.elim
  · split at h
    · split at h
      · rename_i hc
        obtain ⟨g1, g2⟩ := zTab4 hc (by omega) hS
        exact ⟨_, _, _, _, h.2, hS.L _ _, fun K' h9 => ⟨g1, by rw [g2]; exact h.1, h9⟩⟩
      · exact h.elim
    · exact h.elim
  · split at h
    · split at h
      · rename_i hc
        obtain ⟨g1, g2⟩ := zTab3 hc (zlt_ne (zand hc).2 (by omega)) hS
        exact ⟨_, _, _, _, h, hS, fun K' h9 => ⟨g1, by rw [g2]; exact h9⟩⟩
      · exact h.elim
    · exact h.elim
  · exact h.elim
  · exact h.elim
  · rename_i h1 h2 h3 h4 h5 h6 h7 h8 h9 h10 h11
    refine ZGo_of hS ?_ h
    unfold znw
    split
    · exact absurd rfl (h2 _)
    · exact absurd rfl h10
    · rfl
/-- a call, and what comes behind it -/
def zcl (d : Nat) (M C : ZMt) (pc i : Nat) (ls : ZLo) (rest av : List Value) (S : ZSt) (Q : ZOut → ZSt → Prop) : Prop :=
  zW (zcd d C) C 0 (zent (zmMaxL C) av) [] S (zback M pc i ls rest (fun i1 l1 s1 S1 => zW d M i1 l1 s1 S1 Q) (fun x S1 => Q (.inr x) S1))
def zrcvF (g : Bool) (C : ZMt) (av : List Value) (S : ZSt) (P : Prop) : Prop := match zmKind C, av with
  | 0, _ => P
  | _ + 1, .ref b :: _ => (match g with
    | true => zc S b = zmRc C ∧ P
    | false => (match Nat.beq (zTc b) (zmRc C) && Nat.blt (zmRc C) 20 with
      | true => P
      | false => False))
  | _, _ => False
theorem zrcvF_spec {g : Bool} {C : ZMt} {av : List Value} {S : ZSt} {P : Prop} (hS : zSh S) (h : zrcvF g C av S P) : zrcv C av S ∧ P := by
  unfold zrcvF at h
  unfold zrcv
  split at h
  · rename_i hk
    rw [hk]
    exact ⟨trivial, h⟩
  · rename_i hk
    rw [hk]
    split at h
    · exact h
    · split at h
      · rename_i hc
        exact ⟨zTab2 hc (zlt_ne hc (by omega)) hS, h⟩
      · exact h.elim
  · exact h.elim
/-- a stretch of code: it stops at the places of cs, and behind calls; dy: the places whose cells aren't fixed -/
def zF : Nat → List Nat → List Nat → Nat → ZMt → Nat → ZLo → List Value → ZSt → (ZOut → ZSt → Prop) → Prop
  | 0, _, _, d, M, i, ls, st, S, Q => zW d M i ls st S Q
  | f + 1, cs, dy, d, M, i, ls, st, S, Q => match zop M i with
    | none => False
    | some (pc, ins, _, r) => match zkind ins r with
      | 0 => (match zmem i dy with
        | true => zvG ins r i ls st S (fun i1 l1 s1 S1 => match zmem i1 cs with
          | true => zW d M i1 l1 s1 S1 Q
          | false => zF f cs dy d M i1 l1 s1 S1 Q)
        | false => zvF ins r i ls st S (fun i1 l1 s1 S1 => match zmem i1 cs with
          | true => zW d M i1 l1 s1 S1 Q
          | false => zF f cs dy d M i1 l1 s1 S1 Q))
      | 1 => (match r with
        | [k, m, _] => (match Nat.blt (zcd d (zP k)) d && ((Nat.ble m st.length && Nat.ble st.length 40) && (Nat.beq m (zmArgs (zP k)) && Nat.ble (zargs (zpop m st)).length (zmMaxL (zP k)))) with
          | true => zrcvF (zmem i dy) (zP k) (zpop m st) S (zcl d M (zP k) pc i ls (st.drop m) (zpop m st) S Q)
          | false => False)
        | _ => False)
      | 2 => zretQ M ins st S Q
      | 3 => (match r, st with
        | [x], [] => Q (.inr x) (zThr S)
        | _, _ => False)
      | _ => False
theorem zF_W : ∀ (f : Nat) {cs dy : List Nat} {d : Nat} {M : ZMt} {i : Nat} {ls : ZLo} {st : List Value} {S : ZSt} {Q : ZOut → ZSt → Prop}, zSh S → zF f cs dy d M i ls st S Q → zW d M i ls st S Q
  | 0, _, _, _, _, _, _, _, _, _, _, h => h
  | f + 1, cs, dy, d, M, i, ls, st, S, Q, hS, h => by
    have hK : ∀ (i1 : Nat) (l1 : ZLo) (s1 : List Value) (S1 : ZSt), zSh S1 → (match zmem i1 cs with
        | true => zW d M i1 l1 s1 S1 Q
        | false => zF f cs dy d M i1 l1 s1 S1 Q) → zW d M i1 l1 s1 S1 Q := by
      intro i1 l1 s1 S1 h1 h
      split at h
      · exact h
      · exact zF_W f h1 h
    rw [zF] at h
    split at h
    · exact h.elim
    · rename_i pc ins len r ho
      split at h
      · rename_i hk
        have hgo : ZGo ins r i ls st S (fun i1 l1 s1 S1 => match zmem i1 cs with
          | true => zW d M i1 l1 s1 S1 Q
          | false => zF f cs dy d M i1 l1 s1 S1 Q) := by
          split at h
          · exact zvG_go hS h
          · exact zvF_go hS h
        obtain ⟨i1, l1, s1, S1, h1, h2, h3⟩ := hgo
        exact zW_v ho hk (h3 _ (hK _ _ _ _ h2 h1))
      · rename_i hk
        split at h
        · rename_i k m c
          split at h
          · rename_i hb
            simp only [Bool.and_eq_true] at hb
            obtain ⟨h1, ⟨h2, h22⟩, h3, h4⟩ := hb
            obtain ⟨hr, hw⟩ := zrcvF_spec hS h
            exact zW_c ho hk (by simpa [Nat.blt_eq] using h1) ⟨Nat.le_of_ble_eq_true h2, Nat.le_of_ble_eq_true h22⟩ (Nat.eq_of_beq_eq_true h3) (Nat.le_of_ble_eq_true h4) hr hw
          · exact h.elim
        · exact h.elim
      · rename_i hk
        obtain ⟨o, h1, h2⟩ := zretQ_spec h
        exact zW_r ho hk h1 h2
      · rename_i hk
        split at h
        · exact zW_t ho hk h
        · exact h.elim
      · exact h.elim
/-! calls whose callee is known -/
theorem zcl_v {d : Nat} {M C : ZMt} {pc i : Nat} {ls : ZLo} {rest av : List Value} {S : ZSt} {Q : ZOut → ZSt → Prop} {P : Value → ZSt → Prop} (hc : zcd d C = zmHt C) (h : zC C av S (fun o S1 => ∃ v, o = .inl (some v) ∧ P v S1)) (k : ∀ v S1, P v S1 → zW d M (i + 1) ls (v :: rest) S1 Q) : zcl d M C pc i ls rest av S Q := by
  unfold zcl
  rw [hc]
  refine zW.imp h (fun o S1 h1 => ?_)
  obtain ⟨v, rfl, h2⟩ := h1
  exact k v S1 h2
theorem zcl_0 {d : Nat} {M C : ZMt} {pc i : Nat} {ls : ZLo} {rest av : List Value} {S : ZSt} {Q : ZOut → ZSt → Prop} {P : ZSt → Prop} (hc : zcd d C = zmHt C) (h : zC C av S (fun o S1 => o = .inl none ∧ P S1)) (k : ∀ S1, P S1 → zW d M (i + 1) ls rest S1 Q) : zcl d M C pc i ls rest av S Q := by
  unfold zcl
  rw [hc]
  refine zW.imp h (fun o S1 h1 => ?_)
  obtain ⟨rfl, h2⟩ := h1
  exact k S1 h2
