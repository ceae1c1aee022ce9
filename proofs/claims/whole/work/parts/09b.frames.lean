/-! What a program's check says of each instruction; a call's arguments, a method's first locals -/
theorem zchkL_at {M : ZMt} : ∀ {l : List ZOp} {i k : Nat} {o : ZOp}, zchkL M i l = true → l[k]? = some o → zchk M (i + k) o = true
  | [], _, _, _, _, h => by simp at h
  | a :: l, i, 0, o, h, ho => by
    cases ho
    exact (zand h).1
  | a :: l, i, k + 1, o, h, ho => by
    have := zchkL_at (zand h).2 (show l[k]? = some o from ho)
    rwa [show i + 1 + k = i + (k + 1) by omega] at this
theorem zchkC_at {M : ZMt} : ∀ {ls : List (List ZOp)} {j k : Nat} {l : List ZOp}, zchkC M j ls = true → ls[k]? = some l → l.length ≤ 16 ∧ zchkL M (16 * (j + k)) l = true
  | [], _, _, _, _, h => by simp at h
  | a :: ls, j, 0, l, h, hl => by
    cases hl
    exact ⟨Nat.le_of_ble_eq_true (zand h).1, (zand (zand h).2).1⟩
  | a :: ls, j, k + 1, l, h, hl => by
    have := zchkC_at (zand (zand h).2).2 (show ls[k]? = some l from hl)
    rwa [show j + 1 + k = j + (k + 1) by omega] at this
theorem zchk_at {M : ZMt} (h : zchkM M = true) {i : Nat} {o : ZOp} (ho : zop M i = some o) : zchk M i o = true := by
  have hC := (zand h).1
  unfold zop at ho
  split at ho
  · rename_i l hl
    have h1 := (zchkC_at hC hl).2
    have h2 := zchkL_at h1 ho
    rwa [show 16 * (0 + i / 16) + i % 16 = i by omega] at h2
  · cases ho
/-- every instruction is what its bytes say -/
def zDec (M : ZMt) : Prop := ∀ (i pc len : Nat) (ins : Instr) (r : List Nat), zop M i = some (pc, ins, len, r) → decode (zmCode M) pc = .ok (ins, len)
def zGood (M : ZMt) : Prop := zchkM M = true ∧ zDec M
/-- values related one by one -/
def zVs (cad : Nat → Nat) (ws : va_W) (av avR : List Value) : Prop := zSR cad ws av avR
theorem zSR.append {cad : Nat → Nat} {ws : va_W} : ∀ {a a' b b' : List Value}, zSR cad ws a a' → zSR cad ws b b' → zSR cad ws (a ++ b) (a' ++ b')
  | [], [], _, _, _, h => h
  | [], _ :: _, _, _, h, _ => h.elim
  | _ :: _, [], _, _, h, _ => h.elim
  | _ :: _, _ :: _, _, _, h, h' => ⟨h.1, zSR.append h.2 h'⟩
theorem zSR.rev {cad : Nat → Nat} {ws : va_W} : ∀ {a a' : List Value}, zSR cad ws a a' → zSR cad ws a.reverse a'.reverse
  | [], [], _ => trivial
  | [], _ :: _, h => h.elim
  | _ :: _, [], h => h.elim
  | v :: a, V :: a', h => by
    rw [List.reverse_cons, List.reverse_cons]
    exact zSR.append (zSR.rev h.2) ⟨h.1, trivial⟩
theorem zSR.take {cad : Nat → Nat} {ws : va_W} : ∀ (n : Nat) {a a' : List Value}, zSR cad ws a a' → zSR cad ws (a.take n) (a'.take n)
  | 0, _, _, _ => trivial
  | _ + 1, [], [], _ => trivial
  | _ + 1, [], _ :: _, h => h.elim
  | _ + 1, _ :: _, [], h => h.elim
  | n + 1, _ :: _, _ :: _, h => ⟨h.1, zSR.take n h.2⟩
theorem zSR.drop {cad : Nat → Nat} {ws : va_W} : ∀ (n : Nat) {a a' : List Value}, zSR cad ws a a' → zSR cad ws (a.drop n) (a'.drop n)
  | 0, _, _, h => h
  | _ + 1, [], [], _ => trivial
  | _ + 1, [], _ :: _, h => h.elim
  | _ + 1, _ :: _, [], h => h.elim
  | n + 1, _ :: _, _ :: _, h => zSR.drop n h.2
/-- a call's arguments: what lies on the stack, and what is left -/
theorem zSR.args {cad : Nat → Nat} {ws : va_W} {st sr : List Value} (h : zSR cad ws st sr) (n : Nat) : ∃ avR rest, sr = avR.reverse ++ rest ∧ zSR cad ws (zpop n st) avR ∧ zSR cad ws (st.drop n) rest ∧ avR.length = (zpop n st).length :=
  ⟨(sr.take n).reverse, sr.drop n, by rw [List.reverse_reverse, List.take_append_drop], (h.take n).rev, h.drop n, ((h.take n).rev).len⟩
theorem zargs_sl {cad : Nat → Nat} {ws : va_W} : ∀ {av avR : List Value}, zSR cad ws av avR → (lg_sl avR).length = (zargs av).length
  | [], [], _ => rfl
  | [], _ :: _, h => h.elim
  | _ :: _, [], h => h.elim
  | v :: av, V :: avR, h => by
    have ih := zargs_sl h.2
    have hv := h.1
    have e : (lg_sl (V :: avR)).length = (if V.category = 2 then 2 else 1) + (lg_sl avR).length := by
      show ((if V.category = 2 then [Slot.val V, Slot.second] else [Slot.val V]) ++ lg_sl avR).length = _
      rw [List.length_append]
      split <;> rfl
    rw [e, ih]
    cases v with
    | long x =>
      cases hv
      show 2 + (zargs av).length = (zargs av).length + 1 + 1
      omega
    | double x => exact hv.elim
    | retAddr x => exact hv.elim
    | int x =>
      rw [hv.cat (fun _ => by simp)]
      show 1 + (zargs av).length = (zargs av).length + 1
      omega
    | null =>
      rw [hv.cat (fun _ => by simp)]
      show 1 + (zargs av).length = (zargs av).length + 1
      omega
    | ref x =>
      rw [hv.cat (fun _ => by simp)]
      show 1 + (zargs av).length = (zargs av).length + 1
      omega
    | float x =>
      rw [hv.cat (fun _ => by simp)]
      show 1 + (zargs av).length = (zargs av).length + 1
      omega
theorem zargs_at {cad : Nat → Nat} {ws : va_W} : ∀ {av avR : List Value} {b i : Nat} {v : Value}, zSR cad ws av avR → (zargs av)[i]? = some (some v) → ∃ V, zV cad ws v V ∧ (b + i, V) ∈ lv_args b avR
  | [], [], _, _, _, _, h => by simp [zargs] at h
  | [], _ :: _, _, _, _, h, _ => h.elim
  | _ :: _, [], _, _, _, h, _ => h.elim
  | w :: av, V :: avR, b, i, v, h, hi => by
    have hv := h.1
    by_cases hl : ∃ x, w = .long x
    · obtain ⟨x, rfl⟩ := hl
      cases hv
      cases i with
      | zero =>
        cases hi
        exact ⟨.long x, rfl, List.mem_cons_self⟩
      | succ i =>
        cases i with
        | zero => cases hi
        | succ i =>
          obtain ⟨V1, h1, h2⟩ := zargs_at (b := b + 2) h.2 (show (zargs av)[i]? = some (some v) from hi)
          exact ⟨V1, h1, List.mem_cons_of_mem _ (by rw [show b + (i + 1 + 1) = b + 2 + i by omega]; exact h2)⟩
    · have hc := hv.cat (fun x e => hl ⟨x, e⟩)
      have hz : zargs (w :: av) = some w :: zargs av := by
        cases w with
        | long x => exact absurd ⟨x, rfl⟩ hl
        | _ => rfl
      rw [hz] at hi
      cases i with
      | zero =>
        cases hi
        exact ⟨V, hv, List.mem_cons_self⟩
      | succ i =>
        obtain ⟨V1, h1, h2⟩ := zargs_at (b := b + 1) h.2 (show (zargs av)[i]? = some (some v) from hi)
        refine ⟨V1, h1, List.mem_cons_of_mem _ ?_⟩
        rw [show b + (i + 1) = b + 1 + i by omega]
        simp only [hc]
        exact h2
theorem zent_LR {cad : Nat → Nat} {ws : va_W} {av avR : List Value} {n : Nat} (h : zSR cad ws av avR) (hn : (zargs av).length ≤ n) : zLR cad ws (zent n av) (lg_sl avR ++ List.replicate (n - (lg_sl avR).length) Slot.unset).toArray ∧ (zent n av).length = n := by
  have hl := zargs_sl h
  have he := lv_entry avR (n := n) (by omega)
  have hlen : (zent n av).length = n := by
    unfold zent
    rw [List.length_append, List.length_replicate]
    omega
  refine ⟨⟨by rw [hlen]; exact he.1, he.2.1, fun i v hi => ?_⟩, hlen⟩
  have hi9 : (zargs av)[i]? = some (some v) := by
    unfold zent at hi
    by_cases hlt : i < (zargs av).length
    · rwa [List.getElem?_append_left hlt] at hi
    · rw [List.getElem?_append_right (by omega), List.getElem?_replicate] at hi
      split at hi <;> cases hi
  obtain ⟨V, h1, h2⟩ := zargs_at (b := 0) h hi9
  rw [Nat.zero_add] at h2
  exact ⟨V, h1, he.2.2 (i, V) h2⟩
