/-! Where runs begin -/
def cpF (g f : Nat → Int32) (b k : Nat) : Nat → Int32 := fun j => if j < k then f (b + j) else g j
theorem cpF_step {g f : Nat → Int32} {b k : Nat} : ∀ j, cpF g f b (k + 1) j = if j = k then f (b + k) else cpF g f b k j := fun j => by
  unfold cpF
  by_cases h : j = k
  · rw [if_pos (by omega), if_pos h, h]
  · rw [if_neg h]
    by_cases h2 : j < k
    · rw [if_pos h2, if_pos (by omega)]
    · rw [if_neg h2, if_neg (by omega)]
theorem cpF_0 {g f : Nat → Int32} {b : Nat} : ∀ j, cpF g f b 0 j = g j := fun j => by
  unfold cpF
  rw [if_neg (by omega)]
theorem cpF_in {g f : Nat → Int32} {b k j : Nat} (h : j < k) : cpF g f b k j = f (b + j) := by
  unfold cpF
  rw [if_pos h]
theorem zCp.J {a : Nat} {S S1 : ZSt} {f : Nat → Int32} (h : zCp a S S1 f) : zJ [a] S S1 := ⟨h.1, fun c hc => h.2.1 c (zmemN hc).1⟩
theorem zCp.start {a : Nat} {S : ZSt} {f : Nat → Int32} (h : ∀ j, f j = zI S a j) : zCp a S S f := ⟨rfl, fun _ _ => rfl, fun j => (h j).symm⟩
theorem w_M_fromFlock_2 : ∀ (f k : Nat) {S S1 : ZSt} {Q : ZOut → ZSt → Prop}, zSh S → f + k = 12 → zCp 145 S S1 (cpF (zI S 145) (zI S 132) 11 k) → (∀ S', zCp 145 S S' (cpF (zI S 145) (zI S 132) 11 12) → zW 1 m_M_fromFlock 19 [some (.ref 130), some (.int (nI 0))] [] S' Q) → zW 1 m_M_fromFlock 2 [some (.ref 130), some (.int (nI k))] [] S1 Q
  | 0, k, S, S1, Q, hS, hk, hc, h => by
    obtain rfl : k = 12 := by omega
    exact b_M_fromFlock_2 (zSh_of hc.1 hS) (pk_le 12 12 (fun _ => h S1 hc) (fun h9 => by omega))
  | f + 1, k, S, S1, Q, hS, hk, hc, h => by
    refine b_M_fromFlock_2 (zSh_of hc.1 hS) (pk_le 12 k (fun h9 => by omega) (fun h9 => ?_))
    rw [nI_add, nI_add, zcl9 (by omega), zcl9 (by omega)]
    refine ⟨zin (by omega) (by omega), zin (by omega) (by omega), w_M_fromFlock_2 f (k + 1) hS (by omega) (hc.step fun j => ?_) h⟩
    rw [hc.2.1 132 (by omega), cpF_step]
theorem w_M_fromFlock_19 : ∀ (f k : Nat) {S S1 : ZSt} {Q : ZOut → ZSt → Prop}, zSh S → f + k = 24 → zCp 147 S S1 (cpF (zI S 147) (zI S 132) 23 k) → (∀ S', zCp 147 S S' (cpF (zI S 147) (zI S 132) 23 24) → Q (.inl none) S') → zW 1 m_M_fromFlock 19 [some (.ref 130), some (.int (nI k))] [] S1 Q
  | 0, k, S, S1, Q, hS, hk, hc, h => by
    obtain rfl : k = 24 := by omega
    exact b_M_fromFlock_19 (zSh_of hc.1 hS) (pk_le 24 24 (fun _ => h S1 hc) (fun h9 => by omega))
  | f + 1, k, S, S1, Q, hS, hk, hc, h => by
    refine b_M_fromFlock_19 (zSh_of hc.1 hS) (pk_le 24 k (fun h9 => by omega) (fun h9 => ?_))
    rw [nI_add, nI_add, zcl9 (by omega), zcl9 (by omega)]
    refine ⟨zin (by omega) (by omega), zin (by omega) (by omega), w_M_fromFlock_19 f (k + 1) hS (by omega) (hc.step fun j => ?_) h⟩
    rw [hc.2.1 132 (by omega), cpF_step]
theorem w_M_fromFlock {S : ZSt} {Q : ZOut → ZSt → Prop} (hS : zSh S) (h : ∀ S', zJ [145, 147] S S' → (∀ j, j < 12 → zI S' 145 j = zI S 132 (11 + j)) → (∀ j, j < 24 → zI S' 147 j = zI S 132 (23 + j)) → Q (.inl none) S') : zC m_M_fromFlock [.ref 130] S Q := by
  refine b_M_fromFlock hS (w_M_fromFlock_2 12 0 hS (by omega) (zCp.start cpF_0) (fun S1 a1 => w_M_fromFlock_19 24 0 (zSh_of a1.1 hS) (by omega) (zCp.start cpF_0) (fun S2 a2 => ?_)))
  refine h S2 ((zJ3 a1.J (fun c hc => zmemC (zmemN hc).1 rfl)).tr (zJ3 a2.J (fun c hc => (zmemN hc).2))) (fun j hj => ?_) (fun j hj => ?_)
  · rw [a2.2.1 145 (by omega), a1.2.2, cpF_in hj]
  · rw [a2.2.2, cpF_in hj, a1.2.1 132 (by omega)]
def zK36 (S S' : ZSt) : Prop := ∀ j, (j < 29 ∨ 33 < j) → j ≠ 36 → zI S' 130 j = zI S 130 j
theorem w_M_goes_2 : ∀ (f j : Nat) {x1 x2 x3 x4 : Int32} {S S1 : ZSt} {Q : ZOut → ZSt → Prop}, zSh S → f + j = 12 → zCp 146 S S1 (cpF (zI S 146) (zI S 145) 0 j) → (∀ S', zCp 146 S S' (cpF (zI S 146) (zI S 145) 0 12) → zW 3 m_M_goes 30 [some (.ref 130), some (.int x1), some (.int x2), some (.int x3), some (.int x4), some (.int (nI 12)), none] [] (zsI (zsI (zsI (zsI (zsI S' 130 31 (nI 0)) 130 30 (nI 0)) 130 32 (nI 9)) 130 29 (nI 3)) 130 36 (nI 1)) Q) → zW 3 m_M_goes 2 [some (.ref 130), some (.int x1), some (.int x2), some (.int x3), some (.int x4), some (.int (nI j)), none] [] S1 Q
  | 0, j, x1, x2, x3, x4, S, S1, Q, hS, hj, hc, h => by
    obtain rfl : j = 12 := by omega
    exact b_M_goes_2 (zSh_of hc.1 hS) (pk_le 12 12 (fun _ => ⟨Or.inr (by decide), h S1 hc⟩) (fun h9 => by omega))
  | f + 1, j, x1, x2, x3, x4, S, S1, Q, hS, hj, hc, h => by
    refine b_M_goes_2 (zSh_of hc.1 hS) (pk_le 12 j (fun h9 => by omega) (fun h9 => ?_))
    rw [nI_add, zcl9 (by omega)]
    refine ⟨zin (by omega) (by omega), zin (by omega) (by omega), w_M_goes_2 f (j + 1) hS (by omega) (hc.step fun i => ?_) h⟩
    rw [hc.2.1 145 (by omega), cpF_step, show 0 + j = j by omega]
theorem w_M_goes0 {q lim : Nat} {k how : Int32} {h p : Nat → Nat} {S : ZSt} {Q : ZOut → ZSt → Prop} (hS : zSh S) (h34 : zI S 130 34 = - nI 1) (hH : jN (zI S 145) 12 1000000000 h) (hP : jN (zI S 147) 24 3 p)
    (hQ : ∀ S' x5 u6, zJ [130, 146, 147] S S' → zK36 S S' → jQ S' (h, p, 0, 0, 3, 9) → zW 3 m_M_goes 44 [some (.ref 130), some (.int (nI q)), some (.int (nI lim)), some (.int k), some (.int how), some (.int x5), u6] [] S' Q) : zC m_M_goes [.ref 130, .int (nI q), .int (nI lim), .int k, .int how] S Q := by
  refine b_M_goes hS (w_M_goes_2 12 0 hS (by omega) (zCp.start cpF_0) (fun S1 a1 => ?_))
  have j1 : zJ [130, 146, 147] S S1 := zJ3 a1.J (fun c hc => zmemC (zmemN (zmemN hc).2).1 rfl)
  have c130 : zI S1 130 = zI S 130 := a1.2.1 130 (by omega)
  refine b_M_goes_30 (S := zsI (zsI (zsI (zsI (zsI S1 130 31 (nI 0)) 130 30 (nI 0)) 130 32 (nI 9)) 130 29 (nI 3)) 130 36 (nI 1)) (zSh_of a1.1 hS) ?_
  have e34 : zI (zsI (zsI (zsI (zsI (zsI S1 130 31 (nI 0)) 130 30 (nI 0)) 130 32 (nI 9)) 130 29 (nI 3)) 130 36 (nI 1)) 130 34 = - nI 1 := by
    rw [zI_o (by omega), zI_o (by omega), zI_o (by omega), zI_o (by omega), zI_o (by omega), c130]
    exact h34
  have e31 : zI (zsI (zsI (zsI (zsI (zsI S1 130 31 (nI 0)) 130 30 (nI 0)) 130 32 (nI 9)) 130 29 (nI 3)) 130 36 (nI 1)) 130 31 = nI 0 := by
    rw [zI_o (by omega), zI_o (by omega), zI_o (by omega), zI_o (by omega), zI_s]
  rw [e34, e31]
  refine ⟨fun _ => hQ _ _ _ (((((j1.I rfl).I rfl).I rfl).I rfl).I rfl) (fun j h1 h2 => ?_) ⟨fun j hj => ?_, ?_, e31, ?_, ?_, ?_⟩, fun h9 => absurd (nI_m1 (by omega)) h9⟩
  · rw [zI_o h2, zI_o (by omega), zI_o (by omega), zI_o (by omega), zI_o (by omega), c130]
  · show zI S1 146 j = _ ∧ _
    rw [a1.2.2, cpF_in hj, show 0 + j = j by omega]
    exact hH j hj
  · show jN (zI S1 147) 24 3 p
    rw [a1.2.1 147 (by omega)]
    exact hP
  · rw [zI_o (by omega), zI_o (by omega), zI_o (by omega), zI_s]
  · rw [zI_o (by omega), zI_s]
  · rw [zI_o (by omega), zI_o (by omega), zI_s]
theorem w_M_goes {n q : Nat} {kd fa fb : Nat → Nat} (hW : zWy n kd fa fb) (hA : zAl n kd fa fb) (hq : q ≤ 6) {lim : Nat} {h p : Nat → Nat} {how : Int32} {S : ZSt} {Q : ZOut → ZSt → Prop} (hS : zSh S) (hw : jWM S q n kd fa fb) (hl : lim ≤ 4000) (h34 : zI S 130 34 = - nI 1) (hH : jN (zI S 145) 12 1000000000 h) (hP : jN (zI S 147) 24 3 p)
    (hQ : ∀ S', zJ [130, 146, 147] S S' → zK36 S S' → jQ S' (go n kd fa fb lim h p 0 0) → Q (.inl none) S') : zC m_M_goes [.ref 130, .int (nI q), .int (nI lim), .int (- nI 1), .int how] S Q := by
  refine w_M_goes0 hS h34 hH hP (fun S1 x5 u6 j1 s1 r1 => ?_)
  have hs : ∀ S', zK130 S1 S' → zK36 S S' := fun S' s j h1 h2 => (s j h1).trans (s1 j h1 h2)
  refine w_M_goes_44 hW hA hq lim 0 0 h p (j1.sh hS) (hw.J j1 rfl) hW.1 (by omega) hl (fun i h1 h2 => nI_m1 (by omega)) ((s1 34 (by omega) (by omega)).trans h34) r1 (fun S2 j2 s2 _ r2 => hQ S2 (j1.tr j2) (hs S2 s2) r2) (fun S2 h' p' t' y5 y6 j2 s2 e ht r2 => ?_)
  have hn := hW.2.1
  obtain ⟨-, -, e31, e30, -, -⟩ := id r2
  refine b_M_goes_44 ((j1.tr j2).sh hS) ?_
  rw [zcl9 (by omega), (hw.J (j1.tr j2) rfl).1, e31, e30]
  refine ⟨zin (by omega) (by omega), fun _ => ⟨fun h9 => absurd ?_ h9, fun _ => hQ S2 (j1.tr j2) (hs S2 s2) (by rw [e]; exact r2)⟩, fun h9 => absurd (fun e9 => ?_) h9⟩
  · show nI (0 + lim) = nI lim
    rw [Nat.zero_add]
  · have := nEq (a := t') (b := n) (by omega) (by omega) e9
    omega
theorem w_Ru_startFrom {h p : Nat → Nat} {S : ZSt} {Q : ZOut → ZSt → Prop} (hS : zSh S) (hH : jN (zI S 94) 12 1000000000 h) (hP : jN (zI S 95) 24 3 p) (hQ : ∀ S', zJ [106, 107, 108, 109] S S' → jN (zI S' 107) 12 1000000000 h → jR S' (h, p, 0, 0, 3, 9) → Q (.inl none) S') : zC m_Ru_startFrom [.ref 106, .ref 92] S Q := by
  refine b_Ru_startFrom hS ?_
  rw [cl0, cl12, cl24]
  obtain ⟨c94, n94⟩ := zA_of hS (c := 94) (n := 12) rfl
  obtain ⟨c107, n107⟩ := zA_of hS (c := 107) (n := 12) rfl
  obtain ⟨c95, n95⟩ := zA_of hS (c := 95) (n := 24) rfl
  obtain ⟨c109, n109⟩ := zA_of hS (c := 109) (n := 24) rfl
  obtain ⟨c108, n108⟩ := zA_of hS (c := 108) (n := 12) rfl
  refine ⟨c94, c107, by decide, by decide, by decide, by rw [n94]; decide, by rw [n107]; decide, c95, c109, by decide, by decide, by decide, (by show 0 + 24 ≤ zn S 95; rw [n95]; decide), (by show 0 + 24 ≤ zn S 109; rw [n109]; decide), ?_⟩
  refine b_Ru_begin hS ?_
  rw [cl0, cl12]
  refine ⟨c107, c108, by decide, by decide, by decide, (by show 0 + 12 ≤ zn S 107; rw [n107]; decide), (by show 0 + 12 ≤ zn S 108; rw [n108]; decide), b_Ru_startFrom_18 hS (hQ _ (((((((zJ.rf.W rfl).W rfl).W rfl).I rfl).I rfl).I rfl).I rfl) (fun j hj => ?_) ⟨fun j hj => ?_, fun j hj => ?_, ?_, ?_, ?_, ?_⟩)⟩
  · show va_cpy (zI S 94) (zI S 107) 0 0 12 j = _ ∧ _
    rw [pk_cpy_in (by omega) (by omega), show 0 + (j - 0) = j by omega]
    exact hH j hj
  · show va_cpy (va_cpy (zI S 94) (zI S 107) 0 0 12) (zI S 108) 0 0 12 j = _ ∧ _
    rw [pk_cpy_in (by omega) (by omega), show 0 + (j - 0) = j by omega, pk_cpy_in (by omega) (by omega), show 0 + (j - 0) = j by omega]
    exact hH j hj
  · show va_cpy (zI S 95) (zI S 109) 0 0 24 j = _ ∧ _
    rw [pk_cpy_in (by omega) (by omega), show 0 + (j - 0) = j by omega]
    exact hP j hj
  · rw [zI_o (by omega), zI_o (by omega), zI_o (by omega), zI_s]
  · rw [zI_o (by omega), zI_o (by omega), zI_s]
  · rw [zI_o (by omega), zI_s]
  · rw [zI_s]
