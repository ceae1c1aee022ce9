/-! What a run has left becomes the flock -/
/-- one cell alone has changed: it holds f -/
def zCp (a : Nat) (S S' : ZSt) (f : Nat → Int32) : Prop := S'.2 = S.2 ∧ (∀ c, c ≠ a → zI S' c = zI S c) ∧ ∀ j, zI S' a j = f j
theorem zCp.rf {a : Nat} {S : ZSt} : zCp a S S (zI S a) := ⟨rfl, fun _ _ => rfl, fun _ => rfl⟩
theorem zCp.step {a k : Nat} {S S1 : ZSt} {f f' : Nat → Int32} {v : Int32} (h : zCp a S S1 f) (hf : ∀ j, f' j = if j = k then v else f j) : zCp a S (zsI S1 a k v) f' := by
  obtain ⟨h1, h2, h3⟩ := h
  refine ⟨h1, fun c hc => ?_, fun j => ?_⟩
  · rw [zI_ne _ _ hc]
    exact h2 c hc
  · rw [zI_eq, zupd, h3, hf]
/-- k of f's numbers from b on, written from a on -/
def mvF (f : Nat → Int32) (a b k : Nat) : Nat → Int32 := fun j => if a ≤ j ∧ j < a + k then f (b + (j - a)) else f j
theorem mvF_step {f : Nat → Int32} {a b k : Nat} : ∀ j, mvF f a b (k + 1) j = if j = a + k then f (b + k) else mvF f a b k j := fun j => by
  unfold mvF
  by_cases h : j = a + k
  · subst h
    rw [if_pos (by omega), if_pos rfl, Nat.add_sub_cancel_left]
  · rw [if_neg h]
    by_cases h2 : a ≤ j ∧ j < a + k
    · rw [if_pos h2, if_pos (by omega)]
    · rw [if_neg h2, if_neg (by omega)]
theorem w_M_on_12 : ∀ (f k : Nat) {S S1 : ZSt} {Q : ZOut → ZSt → Prop}, zSh S → f + k = 12 → zCp 132 S S1 (mvF (zI S 132) 11 47 k) → (∀ S', zCp 132 S S' (mvF (zI S 132) 11 47 12) → zW 1 m_M_on 31 [some (.ref 130), some (.int (nI 0))] [] S' Q) → zW 1 m_M_on 12 [some (.ref 130), some (.int (nI k))] [] S1 Q
  | 0, k, S, S1, Q, hS, hk, hc, h => by
    obtain rfl : k = 12 := by omega
    exact b_M_on_12 (zSh_of hc.1 hS) (pk_le 12 12 (fun _ => h S1 hc) (fun h9 => by omega))
  | f + 1, k, S, S1, Q, hS, hk, hc, h => by
    refine b_M_on_12 (zSh_of hc.1 hS) (pk_le 12 k (fun h9 => by omega) (fun h9 => ?_))
    rw [nI_add, nI_add, nI_add, zcl9 (by omega), zcl9 (by omega)]
    refine ⟨zin (by omega) (by omega), zin (by omega) (by omega), w_M_on_12 f (k + 1) hS (by omega) (hc.step fun j => ?_) h⟩
    rw [hc.2.2, mvF_step, show mvF (zI S 132) 11 47 k (47 + k) = zI S 132 (47 + k) by unfold mvF; rw [if_neg (by omega)]]
theorem w_M_on_31 : ∀ (f k : Nat) {S S1 : ZSt} {Q : ZOut → ZSt → Prop}, zSh S → f + k = 24 → zCp 132 S S1 (mvF (zI S 132) 23 59 k) → (∀ S', zCp 132 S S' (mvF (zI S 132) 23 59 24) → Q (.inl (some (.int (nI 1)))) S') → zW 1 m_M_on 31 [some (.ref 130), some (.int (nI k))] [] S1 Q
  | 0, k, S, S1, Q, hS, hk, hc, h => by
    obtain rfl : k = 24 := by omega
    exact b_M_on_31 (zSh_of hc.1 hS) (pk_le 24 24 (fun _ => h S1 hc) (fun h9 => by omega))
  | f + 1, k, S, S1, Q, hS, hk, hc, h => by
    refine b_M_on_31 (zSh_of hc.1 hS) (pk_le 24 k (fun h9 => by omega) (fun h9 => ?_))
    rw [nI_add, nI_add, nI_add, zcl9 (by omega), zcl9 (by omega)]
    refine ⟨zin (by omega) (by omega), zin (by omega) (by omega), w_M_on_31 f (k + 1) hS (by omega) (hc.step fun j => ?_) h⟩
    rw [hc.2.2, mvF_step, show mvF (zI S 132) 23 59 k (59 + k) = zI S 132 (59 + k) by unfold mvF; rw [if_neg (by omega)]]
theorem cl0 : (nI 0).toNatClampNeg = 0 := by decide
theorem cl12 : (nI 12).toNatClampNeg = 12 := by decide
theorem cl24 : (nI 24).toNatClampNeg = 24 := by decide
theorem w_St_takeOver {S : ZSt} {Q : ZOut → ZSt → Prop} (hS : zSh S) (h : Q (.inl none) (zwI (zwI S 94 (va_cpy (zI S 97) (zI S 94) 0 0 12)) 95 (va_cpy (zI S 98) (zI S 95) 0 0 24))) : zC m_St_takeOver [.ref 92] S Q := by
  refine b_St_takeOver hS ?_
  rw [cl0, cl12, cl24]
  have c97 := hS.1 97 (by omega)
  have c94 := hS.1 94 (by omega)
  have c98 := hS.1 98 (by omega)
  have c95 := hS.1 95 (by omega)
  have n97 := hS.2.1 97 (by omega) (by omega)
  have n94 := hS.2.1 94 (by omega) (by omega)
  have n98 := hS.2.1 98 (by omega) (by omega)
  have n95 := hS.2.1 95 (by omega) (by omega)
  exact ⟨c97, c94, by decide, by decide, by decide, by rw [n97]; decide, by rw [n94]; decide, c98, c95, by decide, by decide, by decide, (by show 0 + 24 ≤ zn S 98; rw [n98]; decide), (by show 0 + 24 ≤ zn S 95; rw [n95]; decide), h⟩
theorem p_on {S : ZSt} (hS : zSh S) (hJ : jCore S) : zC m_N_on [.ref 75] S (zTwoR S m_M_on [] (zSay [94, 95, 130, 132] S jCore)) := by
  have e0 : zI S 92 3 = zI S 132 6 := hJ.1.2.2.2.1.2.1
  have hr := hJ.1.2.2.2.1.2.2
  obtain ⟨q, -, hq, eq6⟩ := hJ.1.2.2.2.1.1
  refine b_N_on hS ?_
  rw [e0]
  refine ⟨fun h9 => ?_, fun h9 => ?_⟩
  · have h1 : zI S 132 6 = nI 1 := by
      rcases (show q = 0 ∨ q = 1 by omega) with rfl | rfl
      · exact absurd (eq6.trans nI_0) h9
      · exact eq6
    obtain ⟨-, r2, r3⟩ := hr h1
    refine w_St_takeOver hS (b_N_on_9 hS ⟨_, rfl, ⟨rfl, rfl, rfl, hS⟩, b_M_on hS ⟨zinl rfl, fun _ => ?_, fun h8 => absurd h9 h8⟩⟩)
    refine w_M_on_12 12 0 (S := zsI (zwI (zwI S 94 (va_cpy (zI S 97) (zI S 94) 0 0 12)) 95 (va_cpy (zI S 98) (zI S 95) 0 0 24)) 130 0 (nI 0)) hS (by omega) ⟨rfl, fun _ _ => rfl, fun j => ?_⟩ (fun S1 a1 => ?_)
    · unfold mvF
      rw [if_neg (by omega)]
    · refine w_M_on_31 24 0 (S := S1) (zSh_of a1.1 hS) (by omega) ⟨rfl, fun _ _ => rfl, fun j => ?_⟩ (fun S2 a2 => ⟨_, rfl, (), rfl, ?_, ?_⟩)
      · unfold mvF
        rw [if_neg (by omega)]
      · have hz : S2.2 = S.2 := a2.1.trans a1.1
        refine ⟨fun c hc => ?_, fun j hj => ?_, fun c _ => ?_, ?_, ?_, ?_, ?_, ?_, ?_⟩
        · have h4 : c ≠ 94 ∧ c ≠ 95 ∧ c ≠ 130 ∧ c ≠ 132 := by
            refine ⟨?_, ?_, ?_, ?_⟩ <;> (intro e; subst e; cases hc)
          rw [a2.2.1 c h4.2.2.2, a1.2.1 c h4.2.2.2, zI_ne _ _ h4.2.2.1, show zI (zwI (zwI S 94 (va_cpy (zI S 97) (zI S 94) 0 0 12)) 95 (va_cpy (zI S 98) (zI S 95) 0 0 24)) c = zI S c from (zup_ne h4.2.1).trans (zup_ne h4.1)]
        · rw [a2.2.1 130 (by omega), a1.2.1 130 (by omega), zI_eq, upd_ne hj]
          rfl
        · show S2.2.1 c = S.2.1 c
          rw [hz]
        · show S2.2.2.1 = S.2.2.1
          rw [hz]
        · show S2.2.2.2.1 = S.2.2.2.1
          rw [hz]
        · show S2.2.2.2.2.1 = S.2.2.2.2.1
          rw [hz]
        · show S2.2.2.2.2.2.1 = S.2.2.2.2.2.1
          rw [hz]
        · show S.2.2.2.2.2.2.1 ≤ S2.2.2.2.2.2.2.1 ∧ S2.2.2.2.2.2.2.1 ≤ S.2.2.2.2.2.2.1 + 1
          rw [hz]
          omega
        · show S.2.2.2.2.2.2.2 ≤ S2.2.2.2.2.2.2.2 ∧ S2.2.2.2.2.2.2.2 ≤ S.2.2.2.2.2.2.2 + 50 * 1
          rw [hz]
          omega
      · obtain ⟨⟨ja, jb, jc, jd, je, jf, jg, jh, ji⟩, jr⟩ := hJ
        have hf : ∀ j, zI S2 132 j = mvF (mvF (zI S 132) 11 47 12) 23 59 24 j := fun j => by
          rw [a2.2.2]
          unfold mvF
          rw [a1.2.2, a1.2.2]
          rfl
        have hk : ∀ j, j < 11 ∨ 47 ≤ j → zI S2 132 j = zI S 132 j := fun j hj => by
          rw [hf]
          unfold mvF
          rw [if_neg (by omega), if_neg (by omega)]
        have hc : ∀ c, c ≠ 132 → c ≠ 130 → zI S2 c = zI (zwI (zwI S 94 (va_cpy (zI S 97) (zI S 94) 0 0 12)) 95 (va_cpy (zI S 98) (zI S 95) 0 0 24)) c := fun c h1 h2 => by
          rw [a2.2.1 c h1, a1.2.1 c h1, zI_ne _ _ h2]
        refine ⟨?_, fun j hj => ?_⟩
        · unfold jMain jSt
          rw [hc 93 (by omega) (by omega), hc 94 (by omega) (by omega), hc 95 (by omega) (by omega), hc 92 (by omega) (by omega), hc 96 (by omega) (by omega), hc 97 (by omega) (by omega), hc 98 (by omega) (by omega), hc 99 (by omega) (by omega), hc 100 (by omega) (by omega), hc 101 (by omega) (by omega), hc 102 (by omega) (by omega), hc 103 (by omega) (by omega)]
          refine ⟨ja.keep fun j hj => hk j (by omega), fun j hj => ?_, fun j hj => ?_, jd.keep fun j h1 h2 h3 => hk j (by omega), je.keep fun j h1 h2 => hk j (by omega), jf.keep fun j h1 h2 => hk j (by omega), jg.keep fun j h1 h2 => hk j (by omega), jh.keep fun j h1 h2 => hk j (by omega), ji.keep fun j h1 => hk j (by omega)⟩
          · show va_cpy (zI S 97) (zI S 94) 0 0 12 j = _ ∧ _
            rw [pk_cpy_in (by omega) (by omega), hf]
            unfold mvF
            rw [if_neg (by omega), if_pos (by omega), show 0 + (j - 0) = j by omega, show 47 + (11 + j - 11) = 47 + j by omega]
            exact r2 j hj
          · show va_cpy (zI S 98) (zI S 95) 0 0 24 j = _ ∧ _
            rw [pk_cpy_in (by omega) (by omega), hf]
            unfold mvF
            rw [if_pos (by omega), if_neg (by omega), show 0 + (j - 0) = j by omega, show 59 + (23 + j - 23) = 59 + j by omega]
            exact r3 j hj
        · rw [hc 105 (by omega) (by omega), hc 131 (by omega) (by omega)]
          exact jr j hj
  · exact ⟨_, rfl, ⟨rfl, rfl, rfl, hS⟩, b_M_on hS ⟨zinl rfl, fun h8 => absurd h8 h9, fun _ => ⟨_, rfl, (), rfl, ((zOnly.rf _ S).O rfl).mono (by omega), hJ⟩⟩⟩
