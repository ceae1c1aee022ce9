/-! Stretches of code at any depth of calls: for methods that call themselves -/
theorem zcd_lt {d : Nat} {C : ZMt} (hd : 50 ≤ d) (h : (Nat.beq (zmHt C) 100 || Nat.blt (zmHt C) 50) = true) : zcd d C < d := by
  unfold zcd
  rcases zor h with h1 | h1
  · rw [h1]
    show d - 1 < d
    omega
  · have h2 : zmHt C < 50 := Nat.le_of_ble_eq_true h1
    split
    · omega
    · omega
def zFq : Nat → List Nat → List Nat → Nat → ZMt → Nat → ZLo → List Value → ZSt → (ZOut → ZSt → Prop) → Prop
  | 0, _, _, d, M, i, ls, st, S, Q => zW d M i ls st S Q
  | f + 1, cs, dy, d, M, i, ls, st, S, Q => match zop M i with
    | none => False
    | some (pc, ins, _, r) => match zkind ins r with
      | 0 => (match zmem i dy with
        | true => zvG ins r i ls st S (fun i1 l1 s1 S1 => match zmem i1 cs with
          | true => zW d M i1 l1 s1 S1 Q
          | false => zFq f cs dy d M i1 l1 s1 S1 Q)
        | false => zvF ins r i ls st S (fun i1 l1 s1 S1 => match zmem i1 cs with
          | true => zW d M i1 l1 s1 S1 Q
          | false => zFq f cs dy d M i1 l1 s1 S1 Q))
      | 1 => (match r with
        | [k, m, _] => (match (Nat.beq (zmHt (zP k)) 100 || Nat.blt (zmHt (zP k)) 50) && ((Nat.ble m st.length && Nat.ble st.length 40) && (Nat.beq m (zmArgs (zP k)) && Nat.ble (zargs (zpop m st)).length (zmMaxL (zP k)))) with
          | true => zrcvF (zmem i dy) (zP k) (zpop m st) S (zcl d M (zP k) pc i ls (st.drop m) (zpop m st) S Q)
          | false => False)
        | _ => False)
      | 2 => zretQ M ins st S Q
      | 3 => (match r, st with
        | [x], [] => Q (.inr x) (zThr S)
        | _, _ => False)
      | _ => False
theorem zFq_W : ∀ (f : Nat) {cs dy : List Nat} {d : Nat} {M : ZMt} {i : Nat} {ls : ZLo} {st : List Value} {S : ZSt} {Q : ZOut → ZSt → Prop}, 50 ≤ d → zSh S → zFq f cs dy d M i ls st S Q → zW d M i ls st S Q
  | 0, _, _, _, _, _, _, _, _, _, _, _, h => h
  | f + 1, cs, dy, d, M, i, ls, st, S, Q, hd, hS, h => by
    have hK : ∀ (i1 : Nat) (l1 : ZLo) (s1 : List Value) (S1 : ZSt), zSh S1 → (match zmem i1 cs with
        | true => zW d M i1 l1 s1 S1 Q
        | false => zFq f cs dy d M i1 l1 s1 S1 Q) → zW d M i1 l1 s1 S1 Q := by
      intro i1 l1 s1 S1 h1 h
      split at h
      · exact h
      · exact zFq_W f hd h1 h
    rw [zFq] at h
    split at h
    · exact h.elim
    · rename_i pc ins len r ho
      split at h
      · rename_i hk
        have hgo : ZGo ins r i ls st S (fun i1 l1 s1 S1 => match zmem i1 cs with
          | true => zW d M i1 l1 s1 S1 Q
          | false => zFq f cs dy d M i1 l1 s1 S1 Q) := by
          split at h
          · exact zvG_go hS h
          · exact zvF_go hS h
        obtain ⟨i1, l1, s1, S1, h1, h2, h3⟩ := hgo
        exact zW_v ho hk (h3 _ (hK _ _ _ _ h2 h1))
      · rename_i hk
        split at h
        · rename_i k m c
          split at h
          · rename_i hb
            simp only [Bool.and_eq_true] at hb
            obtain ⟨h1, ⟨h2, h22⟩, h3, h4⟩ := hb
            obtain ⟨hr, hw⟩ := zrcvF_spec hS h
            exact zW_c ho hk (zcd_lt hd h1) ⟨Nat.le_of_ble_eq_true h2, Nat.le_of_ble_eq_true h22⟩ (Nat.eq_of_beq_eq_true h3) (Nat.le_of_ble_eq_true h4) hr hw
          · exact h.elim
        · exact h.elim
      · rename_i hk
        obtain ⟨o, h1, h2⟩ := zretQ_spec h
        exact zW_r ho hk h1 h2
      · rename_i hk
        split at h
        · exact zW_t ho hk h
        · exact h.elim
      · exact h.elim
