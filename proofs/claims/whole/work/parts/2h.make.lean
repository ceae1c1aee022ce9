/-! The constructors, run by the kernel: calls, and the law's first rows -/
def hrcv (C : ZMt) (av : List Value) (H : ZHs) : Bool := match zmKind C, av with
  | 0, _ => true
  | _ + 1, .ref b :: _ => decide (hc H b = zmRc C)
  | _, _ => false
noncomputable def zex : Nat → Nat → ZMt → Nat → ZLo → List Value → ZHs → Option ZHs
  | 0, _, _, _, _, _, _ => none
  | n + 1, d, M, i, ls, st, H => match zop M i with
    | none => none
    | some (_, ins, _, r) => match zkind ins r with
      | 0 => (match zpl ins r i ls st H with
        | none => none
        | some (i1, l1, s1, H1) => zex n d M i1 l1 s1 H1)
      | 1 => (match r with
        | [k, m, _] => (match (Nat.blt 0 d && ((Nat.ble m st.length && Nat.ble st.length 40) && (Nat.beq m (zmArgs (zP k)) && Nat.ble (zargs (zpop m st)).length (zmMaxL (zP k))))) && hrcv (zP k) (zpop m st) H with
          | true => (match zex n (d - 1) (zP k) 0 (zent (zmMaxL (zP k)) (zpop m st)) [] H with
            | none => none
            | some H1 => zex n d M (i + 1) ls (st.drop m) H1)
          | false => none)
        | _ => none)
      | 2 => (match ins, st with
        | .return_, [] => some H
        | _, _ => none)
      | _ => none
theorem hrcv_t {L : Nat} {xs : Nat → Int32} {C : ZMt} {av : List Value} {H : ZHs} (h : hrcv C av H = true) : zrcv C av (zab L xs H) := by
  unfold hrcv at h
  unfold zrcv
  split at h
  · rename_i hk
    rw [hk]
    trivial
  · rename_i hk
    rw [hk]
    exact (ab_c H _).trans (of_decide_eq_true h)
  · cases h
theorem zex_run {L : Nat} {xs : Nat → Int32} : ∀ (n d : Nat) {M : ZMt} {i : Nat} {ls : ZLo} {st : List Value} {H H' : ZHs}, zex n d M i ls st H = some H' → zRuns n d M i ls st (zab L xs H) (.inl none) (zab L xs H')
  | 0, d, M, i, ls, st, H, H', h => by cases h
  | n + 1, d, M, i, ls, st, H, H', h => by
    rw [zex] at h
    rw [zRuns]
    split at h
    · cases h
    · rename_i pc ins len r ho
      rw [ho]
      dsimp only
      split at h
      · rename_i hk
        rw [hk]
        split at h
        · cases h
        · rename_i i1 l1 s1 H1 hp
          exact zpl_v hp _ (zex_run n d h)
      · rename_i hk
        rw [hk]
        split at h
        · rename_i k m c
          split at h
          · rename_i hb
            obtain ⟨hb1, hb2⟩ := zand hb
            obtain ⟨b1, b2⟩ := zand hb1
            obtain ⟨b2, b3⟩ := zand b2
            obtain ⟨b4, b5⟩ := zand b2
            obtain ⟨b6, b7⟩ := zand b3
            split at h
            · cases h
            · rename_i H1 hc1
              have d0 : 0 < d := Nat.le_of_ble_eq_true b1
              exact ⟨d0, ⟨Nat.le_of_ble_eq_true b4, Nat.le_of_ble_eq_true b5⟩, Nat.eq_of_beq_eq_true b6, Nat.le_of_ble_eq_true b7, hrcv_t hb2, .inl none, zab L xs H1, zex_run n (d - 1) hc1, zex_run n d h⟩
          · cases h
        · cases h
      · rename_i hk
        rw [hk]
        split at h
        · cases h
          exact ⟨rfl, rfl⟩
        · cases h
      · cases h
/-- the law's first rows, up to a place -/
noncomputable def zpx : Nat → Nat → Nat → ZMt → Nat → ZLo → List Value → ZHs → Option (ZLo × List Value × ZHs)
  | 0, _, _, _, _, _, _, _ => none
  | n + 1, d, q, M, i, ls, st, H => match Nat.beq i q with
    | true => some (ls, st, H)
    | false => match zop M i with
      | none => none
      | some (_, ins, _, r) => match zkind ins r with
        | 0 => (match zpl ins r i ls st H with
          | none => none
          | some (i1, l1, s1, H1) => zpx n d q M i1 l1 s1 H1)
        | 1 => (match r with
          | [k, m, _] => (match (Nat.blt 0 d && ((Nat.ble m st.length && Nat.ble st.length 40) && (Nat.beq m (zmArgs (zP k)) && Nat.ble (zargs (zpop m st)).length (zmMaxL (zP k))))) && hrcv (zP k) (zpop m st) H with
            | true => (match zex 700 (d - 1) (zP k) 0 (zent (zmMaxL (zP k)) (zpop m st)) [] H with
              | none => none
              | some H1 => zpx n d q M (i + 1) ls (st.drop m) H1)
            | false => none)
          | _ => none)
        | _ => none
theorem zpx_W {L : Nat} {xs : Nat → Int32} {Q : ZOut → ZSt → Prop} {q d : Nat} : ∀ (n : Nat) {M : ZMt} {i : Nat} {ls l' : ZLo} {st s' : List Value} {H H' : ZHs}, zpx n d q M i ls st H = some (l', s', H') → zW d M q l' s' (zab L xs H') Q → zW d M i ls st (zab L xs H) Q
  | 0, M, i, ls, l', st, s', H, H', h, k => by cases h
  | n + 1, M, i, ls, l', st, s', H, H', h, k => by
    rw [zpx] at h
    split at h
    · rename_i e
      cases h
      rw [Nat.eq_of_beq_eq_true e]
      exact k
    · split at h
      · cases h
      · rename_i pc ins len r ho
        split at h
        · rename_i hk
          split at h
          · cases h
          · rename_i i1 l1 s1 H1 hp
            exact zW_v ho hk (zpl_v hp _ (zpx_W n h k))
        · rename_i hk
          split at h
          · rename_i k1 m c
            split at h
            · rename_i hb
              obtain ⟨hb1, hb2⟩ := zand hb
              obtain ⟨b1, b2⟩ := zand hb1
              obtain ⟨b2, b3⟩ := zand b2
              obtain ⟨b4, b5⟩ := zand b2
              obtain ⟨b6, b7⟩ := zand b3
              split at h
              · cases h
              · rename_i H1 hc1
                have d0 : 0 < d := Nat.le_of_ble_eq_true b1
                exact zW_c (cd := d - 1) ho hk (by omega) ⟨Nat.le_of_ble_eq_true b4, Nat.le_of_ble_eq_true b5⟩ (Nat.eq_of_beq_eq_true b6) (Nat.le_of_ble_eq_true b7) (hrcv_t hb2) ⟨700, .inl none, zab L xs H1, zex_run 700 (d - 1) hc1, zpx_W n h k⟩
            · cases h
          · cases h
        · cases h
noncomputable def zgo : Option (ZLo × List Value × ZHs) := zpx 40 102 13 m_L_law 0 (zent 7 [.ref 0]) [] []
def lsB (ls : ZLo) (st : List Value) : Bool := match ls, st with
  | [some (.ref a), some (.ref b), some (.ref c), some (.ref d), some (.int v), none, none], [] => (Nat.beq a 0 && Nat.beq b 75) && ((Nat.beq c 130 && Nat.beq d 161) && decide (v = nI 0))
  | _, _ => false
noncomputable def zgB : Bool := match zgo with
  | some (ls, st, _) => lsB ls st
  | none => false
set_option maxRecDepth 100000 in
theorem zgB_t : zgB = true := by decide +kernel
