/-! Runs of the little machine: n bounds their length, d the depth of calls; o and S' are where the method ends -/
/-- behind a call: what came back, and how it goes on -/
def zback (M : ZMt) (pc i : Nat) (ls : ZLo) (rest : List Value) (K : ZNx) (X : Nat → ZSt → Prop) (o1 : ZOut) (S1 : ZSt) : Prop := match o1 with
  | .inl none => K (i + 1) ls rest S1
  | .inl (some v) => K (i + 1) ls (v :: rest) S1
  | .inr x => (match zhan (zmHan M) pc x with
    | some h => K h ls [.float 0] S1
    | none => (match zmHan M with
      | [] => X x S1
      | _ :: _ => False))
def zRuns : Nat → Nat → ZMt → Nat → ZLo → List Value → ZSt → ZOut → ZSt → Prop
  | 0, _, _, _, _, _, _, _, _ => False
  | n + 1, d, M, i, ls, st, S, o, S' => match zop M i with
    | none => False
    | some (pc, ins, _, r) => match zkind ins r with
      | 0 => zv ins r i ls st S (fun i1 l1 s1 S1 => zRuns n d M i1 l1 s1 S1 o S')
      | 1 => (match r with
        | [k, m, _] => 0 < d ∧ (m ≤ st.length ∧ st.length ≤ 40) ∧ m = zmArgs (zP k) ∧ (zargs (zpop m st)).length ≤ zmMaxL (zP k) ∧ zrcv (zP k) (zpop m st) S ∧ ∃ o1 S1, zRuns n (d - 1) (zP k) 0 (zent (zmMaxL (zP k)) (zpop m st)) [] S o1 S1 ∧
            zback M pc i ls (st.drop m) (fun i1 l1 s1 S2 => zRuns n d M i1 l1 s1 S2 o S') (fun x S2 => o = .inr x ∧ S' = S2) o1 S1
        | _ => False)
      | 2 => zret M ins st o ∧ S' = S
      | 3 => (match r, st with
        | [x], [] => o = .inr x ∧ S' = zThr S
        | _, _ => False)
      | _ => False
theorem zback_mono {M : ZMt} {pc i : Nat} {ls : ZLo} {rest : List Value} {K K' : ZNx} {X X' : Nat → ZSt → Prop} {o : ZOut} {S : ZSt} (h : zback M pc i ls rest K X o S) (hK : ∀ i ls st S, K i ls st S → K' i ls st S) (hX : ∀ x S, X x S → X' x S) : zback M pc i ls rest K' X' o S := by
  unfold zback at h ⊢
  split at h
  · exact hK _ _ _ _ h
  · exact hK _ _ _ _ h
  · split at h
    · exact hK _ _ _ _ h
    · split at h
      · exact hX _ _ h
      · exact h.elim
theorem zRuns_deep : ∀ {n : Nat} {d : Nat} {M : ZMt} {i : Nat} {ls : ZLo} {st : List Value} {S : ZSt} {o : ZOut} {S' : ZSt} {d' : Nat}, d ≤ d' → zRuns n d M i ls st S o S' → zRuns n d' M i ls st S o S'
  | 0, _, _, _, _, _, _, _, _, _, _, h => h.elim
  | n + 1, d, M, i, ls, st, S, o, S', d', hd, h => by
    rw [zRuns] at h ⊢
    split at h
    · exact h.elim
    · split at h
      · exact zv_mono h (fun i1 l1 s1 S1 h1 => zRuns_deep hd h1)
      · split at h
        · obtain ⟨h0, h1, h2, h3, h4, o1, S1, h5, h6⟩ := h
          exact ⟨by omega, h1, h2, h3, h4, o1, S1, zRuns_deep (by omega) h5, zback_mono h6 (fun i1 l1 s1 S2 h7 => zRuns_deep hd h7) (fun _ _ h7 => h7)⟩
        · exact h.elim
      · exact h
      · exact h
      · exact h.elim
theorem zRuns_more : ∀ (n : Nat) {d : Nat} {M : ZMt} {i : Nat} {ls : ZLo} {st : List Value} {S : ZSt} {o : ZOut} {S' : ZSt}, zRuns n d M i ls st S o S' → zRuns (n + 1) d M i ls st S o S'
  | 0, _, _, _, _, _, _, _, _, h => h.elim
  | n + 1, d, M, i, ls, st, S, o, S', h => by
    rw [zRuns] at h ⊢
    split at h
    · exact h.elim
    · split at h
      · exact zv_mono h (fun i1 l1 s1 S1 h1 => zRuns_more n h1)
      · split at h
        · obtain ⟨h0, h1, h2, h3, h4, o1, S1, h5, h6⟩ := h
          exact ⟨h0, h1, h2, h3, h4, o1, S1, zRuns_more n h5, zback_mono h6 (fun i1 l1 s1 S2 h7 => zRuns_more n h7) (fun _ _ h7 => h7)⟩
        · exact h.elim
      · exact h
      · exact h
      · exact h.elim
theorem zRuns_mono {n n' d d' : Nat} {M : ZMt} {i : Nat} {ls : ZLo} {st : List Value} {S : ZSt} {o : ZOut} {S' : ZSt} (hn : n ≤ n') (hd : d ≤ d') (h : zRuns n d M i ls st S o S') : zRuns n' d' M i ls st S o S' := by
  have h2 : ∀ k, zRuns (n + k) d' M i ls st S o S' := by
    intro k
    induction k with
    | zero => exact zRuns_deep hd h
    | succ k ih => exact zRuns_more _ ih
  have := h2 (n' - n)
  rwa [show n + (n' - n) = n' by omega] at this
/-! what is proved of a method: from here it ends, and Q holds there -/
def zW (d : Nat) (M : ZMt) (i : Nat) (ls : ZLo) (st : List Value) (S : ZSt) (Q : ZOut → ZSt → Prop) : Prop := ∃ n o S', zRuns n d M i ls st S o S' ∧ Q o S'
/-- a method called with arguments, at its own height -/
def zC (M : ZMt) (av : List Value) (S : ZSt) (Q : ZOut → ZSt → Prop) : Prop := zW (zmHt M) M 0 (zent (zmMaxL M) av) [] S Q
theorem zW.imp {d : Nat} {M : ZMt} {i : Nat} {ls : ZLo} {st : List Value} {S : ZSt} {Q Q' : ZOut → ZSt → Prop} (h : zW d M i ls st S Q) (hQ : ∀ o S, Q o S → Q' o S) : zW d M i ls st S Q' := by
  obtain ⟨n, o, S', h1, h2⟩ := h
  exact ⟨n, o, S', h1, hQ _ _ h2⟩
theorem zC.imp {M : ZMt} {av : List Value} {S : ZSt} {Q Q' : ZOut → ZSt → Prop} (h : zC M av S Q) (hQ : ∀ o S, Q o S → Q' o S) : zC M av S Q' := zW.imp h hQ
theorem zW.deep {d d' : Nat} {M : ZMt} {i : Nat} {ls : ZLo} {st : List Value} {S : ZSt} {Q : ZOut → ZSt → Prop} (h : zW d M i ls st S Q) (hd : d ≤ d') : zW d' M i ls st S Q := by
  obtain ⟨n, o, S', h1, h2⟩ := h
  exact ⟨n, o, S', zRuns_deep hd h1, h2⟩
/-- a plain instruction -/
theorem zW_v {d : Nat} {M : ZMt} {i pc len : Nat} {ins : Instr} {r : List Nat} {ls : ZLo} {st : List Value} {S : ZSt} {Q : ZOut → ZSt → Prop} (ho : zop M i = some (pc, ins, len, r)) (hk : zkind ins r = 0)
    (h : zv ins r i ls st S (fun i1 l1 s1 S1 => zW d M i1 l1 s1 S1 Q)) : zW d M i ls st S Q := by
  obtain ⟨i1, l1, s1, S1, ⟨n, o, S', h1, h2⟩, h3⟩ := zpt ins r i ls st S _ h
  refine ⟨n + 1, o, S', ?_, h2⟩
  rw [zRuns, ho]
  dsimp only
  rw [hk]
  exact h3 _ h1
/-- a call; cd: the depth at which the callee is proved -/
theorem zW_c {d : Nat} {M : ZMt} {i pc len k m c cd : Nat} {ins : Instr} {ls : ZLo} {st : List Value} {S : ZSt} {Q : ZOut → ZSt → Prop} (ho : zop M i = some (pc, ins, len, [k, m, c])) (hk : zkind ins [k, m, c] = 1)
    (hd : cd < d) (hm : m ≤ st.length ∧ st.length ≤ 40) (ha : m = zmArgs (zP k)) (hl : (zargs (zpop m st)).length ≤ zmMaxL (zP k)) (hr : zrcv (zP k) (zpop m st) S)
    (h : zW cd (zP k) 0 (zent (zmMaxL (zP k)) (zpop m st)) [] S (zback M pc i ls (st.drop m) (fun i1 l1 s1 S1 => zW d M i1 l1 s1 S1 Q) (fun x S1 => Q (.inr x) S1))) : zW d M i ls st S Q := by
  obtain ⟨n, o1, S1, h1, h2⟩ := h
  have key : ∀ (n2 : Nat) (o : ZOut) (S' : ZSt), zback M pc i ls (st.drop m) (fun i1 l1 s1 S2 => zRuns n2 d M i1 l1 s1 S2 o S') (fun x S2 => o = .inr x ∧ S' = S2) o1 S1 → zRuns (max n n2 + 1) d M i ls st S o S' := by
    intro n2 o S' hb
    rw [zRuns, ho]
    dsimp only
    rw [hk]
    exact ⟨by omega, hm, ha, hl, hr, o1, S1, zRuns_mono (by omega) (by omega) h1, zback_mono hb (fun i1 l1 s1 S2 h7 => zRuns_mono (by omega) (Nat.le_refl _) h7) (fun _ _ h7 => h7)⟩
  unfold zback at h2 key
  split at h2
  · obtain ⟨n2, o, S', h3, h4⟩ := h2
    exact ⟨_, o, S', key n2 o S' h3, h4⟩
  · obtain ⟨n2, o, S', h3, h4⟩ := h2
    exact ⟨_, o, S', key n2 o S' h3, h4⟩
  · split at h2
    · rename_i hh
      obtain ⟨n2, o, S', h3, h4⟩ := h2
      exact ⟨_, o, S', key n2 o S' (by simp only [hh]; exact h3), h4⟩
    · rename_i hh
      split at h2
      · rename_i hm
        refine ⟨_, _, _, key 0 (.inr _) S1 ?_, h2⟩
        simp only [hh]
        simp [hm]
      · exact h2.elim
theorem zW_r {d : Nat} {M : ZMt} {i pc len : Nat} {ins : Instr} {r : List Nat} {ls : ZLo} {st : List Value} {S : ZSt} {Q : ZOut → ZSt → Prop} {o : ZOut} (ho : zop M i = some (pc, ins, len, r)) (hk : zkind ins r = 2)
    (h : zret M ins st o) (hq : Q o S) : zW d M i ls st S Q := by
  refine ⟨1, o, S, ?_, hq⟩
  rw [zRuns, ho]
  dsimp only
  rw [hk]
  exact ⟨h, rfl⟩
theorem zW_t {d : Nat} {M : ZMt} {i pc len x : Nat} {ins : Instr} {ls : ZLo} {S : ZSt} {Q : ZOut → ZSt → Prop} (ho : zop M i = some (pc, ins, len, [x])) (hk : zkind ins [x] = 3)
    (hq : Q (.inr x) (zThr S)) : zW d M i ls [] S Q := by
  refine ⟨1, .inr x, zThr S, ?_, hq⟩
  rw [zRuns, ho]
  dsimp only
  rw [hk]
  exact ⟨rfl, rfl⟩
/-! a stretch of code at once: f bounds its length; at the places of 'cuts' it stops -/
/-- the end of a method by its return: what is left to show -/
def zretQ (M : ZMt) (ins : Instr) (st : List Value) (S : ZSt) (Q : ZOut → ZSt → Prop) : Prop := match ins, st with
  | .ireturn, [.int v] => (match zmRet M with
    | some .int => Q (.inl (some (.int v))) S
    | some ty => narrow ty (.int v) = .int v ∧ Q (.inl (some (.int v))) S
    | none => False)
  | .lreturn, [.long v] => Q (.inl (some (.long v))) S
  | .areturn, [.ref a] => Q (.inl (some (.ref a))) S
  | .return_, [] => Q (.inl none) S
  | _, _ => False
theorem zretQ_spec {M : ZMt} {ins : Instr} {st : List Value} {S : ZSt} {Q : ZOut → ZSt → Prop} (h : zretQ M ins st S Q) : ∃ o, zret M ins st o ∧ Q o S := by
  unfold zretQ at h
  split at h
  · split at h
    · rename_i hr
      exact ⟨_, ⟨⟨.int, hr, rfl⟩, rfl⟩, h⟩
    · rename_i ty _ hr
      exact ⟨_, ⟨⟨_, hr, h.1⟩, rfl⟩, h.2⟩
    · exact h.elim
  · exact ⟨_, rfl, h⟩
  · exact ⟨_, rfl, h⟩
  · exact ⟨_, rfl, h⟩
  · exact h.elim
def zmem (i : Nat) : List Nat → Bool
  | [] => false
  | c :: cs => Nat.beq i c || zmem i cs
/-- the depth at which a callee is proved: its height; a method that calls itself: one less than here -/
def zcd (d : Nat) (C : ZMt) : Nat := match Nat.beq (zmHt C) 100 with
  | true => d - 1
  | false => zmHt C
def zrcvQ (C : ZMt) (av : List Value) (S : ZSt) (P : Prop) : Prop := match zmKind C, av with
  | 0, _ => P
  | _ + 1, .ref b :: _ => zc S b = zmRc C ∧ P
  | _, _ => False
theorem zrcvQ_spec {C : ZMt} {av : List Value} {S : ZSt} {P : Prop} (h : zrcvQ C av S P) : zrcv C av S ∧ P := by
  unfold zrcvQ at h
  unfold zrcv
  split at h
  · rename_i hk
    rw [hk]
    exact ⟨trivial, h⟩
  · rename_i hk
    rw [hk]
    exact h
  · exact h.elim
def zB : Nat → List Nat → Nat → ZMt → Nat → ZLo → List Value → ZSt → (ZOut → ZSt → Prop) → Prop
  | 0, _, d, M, i, ls, st, S, Q => zW d M i ls st S Q
  | f + 1, cs, d, M, i, ls, st, S, Q => match zop M i with
    | none => False
    | some (pc, ins, _, r) => match zkind ins r with
      | 0 => zv ins r i ls st S (fun i1 l1 s1 S1 => match zmem i1 cs with
        | true => zW d M i1 l1 s1 S1 Q
        | false => zB f cs d M i1 l1 s1 S1 Q)
      | 1 => (match r with
        | [k, m, _] => (match Nat.blt (zcd d (zP k)) d && ((Nat.ble m st.length && Nat.ble st.length 40) && (Nat.beq m (zmArgs (zP k)) && Nat.ble (zargs (zpop m st)).length (zmMaxL (zP k)))) with
          | true => zrcvQ (zP k) (zpop m st) S (zW (zcd d (zP k)) (zP k) 0 (zent (zmMaxL (zP k)) (zpop m st)) [] S
              (zback M pc i ls (st.drop m) (fun i1 l1 s1 S1 => match zmem i1 cs with
                | true => zW d M i1 l1 s1 S1 Q
                | false => zB f cs d M i1 l1 s1 S1 Q) (fun x S1 => Q (.inr x) S1)))
          | false => False)
        | _ => False)
      | 2 => zretQ M ins st S Q
      | 3 => (match r, st with
        | [x], [] => Q (.inr x) (zThr S)
        | _, _ => False)
      | _ => False
theorem zB_W : ∀ (f : Nat) {cs : List Nat} {d : Nat} {M : ZMt} {i : Nat} {ls : ZLo} {st : List Value} {S : ZSt} {Q : ZOut → ZSt → Prop}, zB f cs d M i ls st S Q → zW d M i ls st S Q
  | 0, _, _, _, _, _, _, _, _, h => h
  | f + 1, cs, d, M, i, ls, st, S, Q, h => by
    have hK : ∀ (i1 : Nat) (l1 : ZLo) (s1 : List Value) (S1 : ZSt), (match zmem i1 cs with
        | true => zW d M i1 l1 s1 S1 Q
        | false => zB f cs d M i1 l1 s1 S1 Q) → zW d M i1 l1 s1 S1 Q := by
      intro i1 l1 s1 S1 h
      split at h
      · exact h
      · exact zB_W f h
    rw [zB] at h
    split at h
    · exact h.elim
    · rename_i pc ins len r ho
      split at h
      · rename_i hk
        exact zW_v ho hk (zv_mono h hK)
      · rename_i hk
        split at h
        · rename_i k m c
          split at h
          · rename_i hb
            simp only [Bool.and_eq_true] at hb
            obtain ⟨h1, ⟨h2, h22⟩, h3, h4⟩ := hb
            obtain ⟨hr, hw⟩ := zrcvQ_spec h
            exact zW_c ho hk (by simpa [Nat.blt_eq] using h1) ⟨Nat.le_of_ble_eq_true h2, Nat.le_of_ble_eq_true h22⟩ (Nat.eq_of_beq_eq_true h3) (Nat.le_of_ble_eq_true h4) hr (zW.imp hw (fun o S1 hb => zback_mono hb hK (fun _ _ h7 => h7)))
          · exact h.elim
        · exact h.elim
      · rename_i hk
        obtain ⟨o, h1, h2⟩ := zretQ_spec h
        exact zW_r ho hk h1 h2
      · rename_i hk
        split at h
        · exact zW_t ho hk h
        · exact h.elim
      · exact h.elim
