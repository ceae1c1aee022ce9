/-! valley: both, and what stays true -/
def lTs : List Nat := [0, 5, 6, 7, 8, 9, 10, 11]
theorem w_N_valley {len m : Nat} {b : Nat → Nat} {S : ZSt} {Q : ZOut → ZSt → Prop} (hS : zSh S) (hC : zCst S) (e1 : zI S 76 1 = nI len) (hl : len ≤ 400) (hm : m ≤ len) (hb : ∀ j, j < m → b j < 256 ∧ zI S 77 j = nI (b j))
    (bad : ∀ k t, vlp b m 7 0 (fun _ => 0) tdW 0 = .inl (k, t) → ∀ S', zJ [76, 78, 79, 80] S S' → zI S' 76 1 = nI 0 → zI S' 76 8 = nI t → Q (.inl (some (.int (nI k - nI 10)))) S')
    (ok : ∀ d c, vlp b m 7 0 (fun _ => 0) tdW 0 = .inr (d, c) → c ≤ 6 → zTd d → ∀ S', zJ [76, 78, 79, 80, 92, 93, 94, 95] S S' → zI S' 76 1 = nI 0 → zI S' 76 8 = - nI 1 → jRw S' 93 d → (∀ j, j < 12 → zI S' 94 j = nI 0) → (∀ j, j < 24 → zI S' 95 j = nI 0) → zI S' 92 3 = nI 0 → Q (.inl (some (.int (nI c)))) S') : zC m_N_valley [.ref 75, .int (nI m)] S Q := by
  refine b_N_valley hS ?_
  rw [e1]
  refine w_N_isNotV (by omega) hS (fun _ => b_N_valley_7 hS (b_N_refuseIf hS ⟨fun _ => b_N_valley_8 hS ?_, fun h9 => absurd rfl h9⟩)) (fun h9 => absurd rfl (h9 m hm))
  refine w_Ta_begin hS (by omega) hb (fun S1 j1 a1 a7 a8 x1 t1 => b_N_valley_12 (j1.sh hS) ?_)
  have hS1 := j1.sh hS
  refine w_VR_reads hS1 (hC.J j1 rfl) x1 t1 (fun k t hv S2 j2 c7 c8 => b_N_valley_17 (j2.1.sh hS1) ⟨fun h9 => absurd rfl h9, fun _ => b_Ta_faultAnswer (j2.1.sh hS1) (b_N_valley_21 (j2.1.sh hS1) ?_)⟩) (fun d c hv h6 hz S2 j2 r79 r2 c8 => b_N_valley_17 (j2.1.sh hS1) ⟨fun _ => ?_, fun h9 => absurd (by decide) h9⟩)
  · rw [c7]
    exact bad k t hv S2 (zJ.tr (l := [76, 78, 79, 80]) ⟨j1.1, fun c hc => j1.2 c (zsub_of rfl c hc)⟩ j2.1) ((j2.2 1 (by omega)).trans a1) c8
  · refine w_St_settle (j2.1.sh hS1) r79 (fun S3 j3 r93 z94 z95 z92 => b_N_valley_28 (j3.sh (j2.1.sh hS1)) ?_)
    have e78 : zI S3 78 2 = nI c := by
      rw [j3.2 78 rfl]
      exact r2
    rw [e78]
    refine ok d c hv h6 hz S3 ((zJ.tr (l := [76, 78, 79, 80, 92, 93, 94, 95]) ⟨j1.1, fun c hc => j1.2 c (zsub_of rfl c hc)⟩ ⟨j2.1.1, fun c hc => j2.1.2 c (zsub_of rfl c hc)⟩).tr ⟨j3.1, fun c hc => j3.2 c (zsub_of rfl c hc)⟩) ?_ ?_ r93 z94 z95 z92
    · rw [j3.2 76 rfl, j2.2 1 (by omega)]
      exact a1
    · rw [j3.2 76 rfl, c8]
      exact a8
/-- where the reference begins a text -/
def zBg (T : ZSt) (m : Nat) : ZSt := zsI (zsI (zsI (zsI (zsI (zsI (zsI T 130 0 (nI 0)) 130 5 (nI 0)) 130 11 (- nI 1)) 130 6 (nI m)) 130 7 (nI 0)) 130 8 (- nI 1)) 130 10 (nI 0)
theorem zBg_j {T : ZSt} {m : Nat} : zJ [130] T (zBg T m) := ((((((zJ.rf.I rfl).I rfl).I rfl).I rfl).I rfl).I rfl).I rfl
theorem zBg_k {T : ZSt} {m j : Nat} (hj : zmem j lTs = false) : zI (zBg T m) 130 j = zI T 130 j := by
  have n0 : j ≠ 0 := fun e => by rw [e] at hj; cases hj
  have n5 : j ≠ 5 := fun e => by rw [e] at hj; cases hj
  have n6 : j ≠ 6 := fun e => by rw [e] at hj; cases hj
  have n7 : j ≠ 7 := fun e => by rw [e] at hj; cases hj
  have n8 : j ≠ 8 := fun e => by rw [e] at hj; cases hj
  have n10 : j ≠ 10 := fun e => by rw [e] at hj; cases hj
  have n11 : j ≠ 11 := fun e => by rw [e] at hj; cases hj
  unfold zBg
  rw [zI_o n10, zI_o n8, zI_o n7, zI_o n6, zI_o n11, zI_o n5, zI_o n0]
theorem zBg_v {T : ZSt} {m : Nat} : zI (zBg T m) 130 0 = nI 0 ∧ zI (zBg T m) 130 5 = nI 0 ∧ zI (zBg T m) 130 6 = nI m ∧ zI (zBg T m) 130 7 = nI 0 ∧ zI (zBg T m) 130 8 = - nI 1 ∧ zI (zBg T m) 130 10 = nI 0 ∧ zI (zBg T m) 130 11 = - nI 1 := by
  unfold zBg
  refine ⟨?_, ?_, ?_, ?_, ?_, ?_, ?_⟩
  · rw [zI_o (by omega), zI_o (by omega), zI_o (by omega), zI_o (by omega), zI_o (by omega), zI_o (by omega), zI_s]
  · rw [zI_o (by omega), zI_o (by omega), zI_o (by omega), zI_o (by omega), zI_o (by omega), zI_s]
  · rw [zI_o (by omega), zI_o (by omega), zI_o (by omega), zI_s]
  · rw [zI_o (by omega), zI_o (by omega), zI_s]
  · rw [zI_o (by omega), zI_s]
  · rw [zI_s]
  · rw [zI_o (by omega), zI_o (by omega), zI_o (by omega), zI_o (by omega), zI_s]
theorem zBg_x {T : ZSt} {b : Nat → Nat} {m : Nat} (hm : m ≤ 400) (hb : ∀ j, j < m → b j < 256 ∧ zI T 134 j = nI (b j)) : jMx (zBg T m) b m := ⟨hm, zBg_v.2.2.1, fun j hj => ⟨(hb j hj).1, by rw [zBg_j.2 134 rfl]; exact (hb j hj).2⟩⟩
theorem w_M_valley {len m : Nat} {b : Nat → Nat} {T : ZSt} {Q : ZOut → ZSt → Prop} (hT : zSh T) (hC : zCst T) (e5 : zI T 130 5 = nI len) (hl : len ≤ 400) (hm : m ≤ len) (hb : ∀ j, j < m → b j < 256 ∧ zI T 134 j = nI (b j))
    (bad : ∀ k t, vlp b m 7 0 (fun _ => 0) tdW 0 = .inl (k, t) → ∀ S', zJ [130, 135] T S' → (∀ j, zmem j lTs = false → zI S' 130 j = zI T 130 j) → zI S' 130 0 = nI 0 → zI S' 130 5 = nI 0 → zI S' 130 11 = nI t → Q (.inl (some (.int (nI k - nI 10)))) S')
    (ok : ∀ d c, vlp b m 7 0 (fun _ => 0) tdW 0 = .inr (d, c) → ∀ S', zJ [130, 132, 135] T S' → (∀ j, zmem j lTs = false → zI S' 130 j = zI T 130 j) → zI S' 130 0 = nI 0 → zI S' 130 5 = nI 0 → zI S' 130 11 = - nI 1 → (∀ j, j < 6 → zI S' 132 j = nI (d j)) → (∀ j, 6 ≤ j → j < 83 → zI S' 132 j = nI 0) → (∀ j, 83 ≤ j → zI S' 132 j = zI T 132 j) → Q (.inl (some (.int (nI c)))) S') : zC m_M_valley [.ref 130, .int (nI m)] T Q := by
  have hT0 : zSh (zsI T 130 0 (nI 0)) := hT
  obtain ⟨v0, v5, v6, v7, v8, v10, v11⟩ := zBg_v (T := T) (m := m)
  have hB : zSh (zBg T m) := zBg_j.sh hT
  have fin : ∀ S1, zJ [135] (zBg T m) S1 → jRw S1 135 tdW → zW 7 m_M_valley 56 [some (.ref 130), some (.int (nI m)), some (.int (nI 0)), some (.int (nI 0)), none] [] S1 Q := fun S1 j1 r1 => by
    have c1 : zI S1 130 = zI (zBg T m) 130 := j1.2 130 rfl
    have J1 : zJ [130, 135] T S1 := zJ.tr (l := [130, 135]) ⟨zBg_j.1, fun c hc => zBg_j.2 c (zsub_of rfl c hc)⟩ ⟨j1.1, fun c hc => j1.2 c (zsub_of rfl c hc)⟩
    have hS1 := j1.sh hB
    have hM0 : mkV 0 (fun _ => 0) := ⟨by omega, fun j _ => by show 0 / 2 ^ j % 2 = 0; rw [Nat.zero_div]⟩
    refine w_M_va_56 7 0 0 0 (fun _ => 0) tdW (by omega) hS1 (hC.J J1 rfl) ((zBg_x (by omega) hb).K (by rw [c1]) (by rw [j1.2 134 rfl])) (Nat.zero_le _) (by rw [c1]; exact v7) (by unfold jFn; rw [c1]; exact v8) hM0 ⟨fun _ _ => Nat.zero_le _, rfl⟩ r1 (fun i hi => (tdW_c i hi).2) (fun k t hv S2 j2 a11 => bad k t hv S2 (J1.tr j2.1) (fun j hj => ?_) ?_ ?_ a11) (fun d c hv S2 j2 a11 r6 r83 rr => ok d c hv S2 (zJ.tr (l := [130, 132, 135]) ⟨J1.1, fun c hc => J1.2 c (zsub_of rfl c hc)⟩ j2.1) (fun j hj => ?_) ?_ ?_ a11 r6 r83 (fun j hj => ?_))
    · rw [j2.2 j (zsub_of rfl j hj), c1]
      exact zBg_k hj
    · rw [j2.2 0 rfl, c1]
      exact v0
    · rw [j2.2 5 rfl, c1]
      exact v5
    · rw [j2.2 j (zsub_of rfl j hj), c1]
      exact zBg_k hj
    · rw [j2.2 0 rfl, c1]
      exact v0
    · rw [j2.2 5 rfl, c1]
      exact v5
    · rw [rr j hj, J1.2 132 rfl]
  refine b_M_valley hT ?_
  rw [e5]
  refine ⟨fun h9 => absurd h9 (nI_pos (by omega)), fun _ => ⟨fun h9 => absurd h9 (nI_nlt (by omega) (by omega)), fun _ => w_M_may1 hT0 zI_s (b_M_valley_16 hT0 ⟨fun _ => b_M_begins hT0 (b_M_valley_22 hB ⟨zinl rfl, zinl rfl, zinl rfl, zinl rfl, zinl rfl, zinl rfl, ?_⟩), fun h9 => absurd (by decide) h9⟩)⟩⟩
  have j1 : zJ [135] (zBg T m) (zsI (zsI (zsI (zsI (zsI (zsI (zBg T m) 135 0 (nI 2)) 135 1 (nI 0)) 135 2 (nI 24)) 135 3 (nI 3)) 135 4 (nI 0)) 135 5 (nI 0)) := (((((zJ.rf.I rfl).I rfl).I rfl).I rfl).I rfl).I rfl
  have r1 : jRw (zsI (zsI (zsI (zsI (zsI (zsI (zBg T m) 135 0 (nI 2)) 135 1 (nI 0)) 135 2 (nI 24)) 135 3 (nI 3)) 135 4 (nI 0)) 135 5 (nI 0)) 135 tdW := fun j hj => by
    rcases (show j = 0 ∨ j = 1 ∨ j = 2 ∨ j = 3 ∨ j = 4 ∨ j = 5 by omega) with rfl | rfl | rfl | rfl | rfl | rfl
    · rw [zI_o (by omega), zI_o (by omega), zI_o (by omega), zI_o (by omega), zI_o (by omega), zI_s]
      rfl
    · rw [zI_o (by omega), zI_o (by omega), zI_o (by omega), zI_o (by omega), zI_s]
      rfl
    · rw [zI_o (by omega), zI_o (by omega), zI_o (by omega), zI_s]
      rfl
    · rw [zI_o (by omega), zI_o (by omega), zI_s]
      rfl
    · rw [zI_o (by omega), zI_s]
      rfl
    · rw [zI_s]
      rfl
  exact fin _ j1 r1
theorem zout {len : Nat} {v : Int32} (hl : len ≤ 400) (h : ∀ i, i ≤ len → v ≠ nI i) : v < 0 ∨ nI len < v := by
  by_cases c : v < 0
  · exact Or.inl c
  · obtain ⟨j, hj, rfl⟩ := nI_of c
    refine Or.inr (nI_lt ?_ hj)
    by_cases c2 : j ≤ len
    · exact absurd rfl (h j c2)
    · omega
/-- a text of a length that is none -/
theorem y_valley0 {v1 : Int32} {len : Nat} {S : ZSt} (hS : zSh S) (hD : zStD S) (hJ : jCore S) (e1 : zI S 76 1 = nI len) (e5 : zI S 130 5 = nI len) (hl : len ≤ 400) (hv : ∀ i, i ≤ len → v1 ≠ nI i) : zC m_L_valley [.ref 75, .int v1, .ref 161] S (zTwoR S m_M_valley [.int v1] (zAns4 S)) := by
  have hO : zC m_N_valley [.ref 75, .int v1] S (zOb S (.inl (2, 1))) := by
    refine b_N_valley hS ?_
    rw [e1]
    exact w_N_isNotV (by omega) hS (fun ⟨i, a1, a2⟩ => absurd a2 (hv i a1)) (fun _ => b_N_valley_7 hS (b_N_refuseIf hS ⟨fun h9 => absurd h9 (by decide), fun _ => ⟨zinl rfl, zinl rfl, zOb_bad (r := 2) (kk := 1) hS⟩⟩))
  have hM : ∀ T, zSh T → zAt S T → zC m_M_valley [.ref 130, .int v1] T (zMo T (.inl (2, 1))) := fun T hT tT => by
    have hT0 : zSh (zsI T 130 0 (nI 0)) := hT
    have e : zI T 130 5 = nI len := by
      rw [tT.at rfl]
      exact e5
    refine b_M_valley hT ?_
    rw [e]
    have B : zcl 7 m_M_valley m_M_may 25 15 [some (.ref 130), some (.int v1), none, none, none] [] [.ref 130, .int (nI 0), .int (nI 1), .int (nI 2)] (zsI T 130 0 (nI 0)) (zMo T (.inl (2, 1))) := w_M_may0 hT0 zI_s (by omega) (by omega) (b_M_valley_16 hT0 ⟨fun h9 => absurd rfl h9, fun _ => zMo_bad (r := 2) (kk := 1) hT⟩)
    exact ⟨fun _ => B, fun h1 => ⟨fun _ => B, fun h2 => (by rcases zout hl hv with c | c; exact absurd c h1; exact absurd c h2)⟩⟩
  refine b_L_valley hS (zC.imp hO (fun o S1 h => ?_))
  obtain ⟨rfl, Sc, h1, h2, rfl⟩ := h
  exact b_L_valley_8 h2 ⟨_, rfl, h1.kpT hD h2, zC.imp (hM (zThr (zsI Sc 105 2 (zI Sc 105 2 + nI 1))) h2 (fun c hc h9 => (zI_ne (S := Sc) _ _ (by omega)).trans (h1.big hD c hc h9))) (fun o S2 h => by
    obtain ⟨b, e1, e2⟩ := zy_bad (r := 2) (kk := 1) hD hJ h1 (by omega) (by omega) h
    exact ⟨b, e1, e2.to⟩)⟩
theorem jTape0 {S : ZSt} (h1 : zI S 76 1 = nI 0) (h2 : zI S 130 5 = nI 0) : jTape S := ⟨0, by omega, h1, h2, fun j hj => absurd hj (Nat.not_lt_zero j)⟩
theorem jCore_valley {S S2 : ZSt} {d : Nat → Nat} (hJ : jCore S) (hz : zTd d) (same : ∀ c, zmem c [96, 97, 98, 99, 100, 101, 102, 103, 105, 131] = true → zI S2 c = zI S c) (r93 : jRw S2 93 d) (z94 : ∀ j, j < 12 → zI S2 94 j = nI 0) (z95 : ∀ j, j < 24 → zI S2 95 j = nI 0) (z92 : zI S2 92 3 = nI 0) (r6 : ∀ j, j < 6 → zI S2 132 j = nI (d j)) (r83 : ∀ j, 6 ≤ j → j < 83 → zI S2 132 j = nI 0) (rr : ∀ j, 83 ≤ j → zI S2 132 j = zI S 132 j) : jCore S2 := by
  obtain ⟨⟨a1, a2, a3, a4, a5, a6, a7, a8, a9⟩, r⟩ := hJ
  have rg : ∀ i lo hi, i < 6 → lo = vlo i → vmx i = hi → jRg (nI (d i)) lo hi := fun i lo hi h6 h1 h2 => ⟨d i, by have := (hz i h6).1; omega, by have := (hz i h6).2; omega, rfl⟩
  have jz : ∀ hi, jRg (nI 0) 0 hi := fun hi => ⟨0, by omega, by omega, rfl⟩
  refine ⟨⟨⟨fun j hj => (r93 j hj).trans (r6 j hj).symm, ?_⟩, fun j hj => ?_, fun j hj => ?_, ⟨?_, ?_, fun e => ?_⟩, ?_, ?_, ?_, ?_, ?_⟩, fun j hj => ?_⟩
  · unfold jVal
    rw [r6 0 (by omega), r6 1 (by omega), r6 2 (by omega), r6 3 (by omega), r6 4 (by omega), r6 5 (by omega)]
    exact ⟨rg 0 1 12 (by omega) rfl rfl, rg 1 0 24 (by omega) rfl rfl, rg 2 1 24 (by omega) rfl rfl, rg 3 0 3 (by omega) rfl rfl, rg 4 0 1 (by omega) rfl rfl, rg 5 0 1 (by omega) rfl rfl⟩
  · rw [z94 j hj, r83 (11 + j) (by omega) (by omega)]
    exact ⟨rfl, jz _⟩
  · rw [z95 j hj, r83 (23 + j) (by omega) (by omega)]
    exact ⟨rfl, jz _⟩
  · rw [r83 6 (by omega) (by omega)]
    exact jz _
  · rw [z92, r83 6 (by omega) (by omega)]
  · rw [r83 6 (by omega) (by omega)] at e
    exact absurd e (by decide)
  · rw [same 99 rfl]
    exact a5.keep (fun j h1 _ => rr j (by omega))
  · rw [same 100 rfl]
    exact a6.keep (fun j h1 _ => rr j (by omega))
  · rw [same 101 rfl]
    exact a7.keep (fun j h1 _ => rr j (by omega))
  · rw [same 102 rfl]
    exact a8.keep (fun j h1 _ => rr j (by omega))
  · rw [same 103 rfl]
    exact a9.keep (fun j h1 => rr j (by omega))
  · rw [same 105 rfl, same 131 rfl]
    exact r j hj
/-- the tape's bytes, for both -/
theorem jTape.b {S : ZSt} (h : jTape S) : ∃ (len : Nat) (b : Nat → Nat), len ≤ 400 ∧ zI S 76 1 = nI len ∧ zI S 130 5 = nI len ∧ ∀ j, j < len → b j < 256 ∧ zI S 77 j = nI (b j) ∧ zI S 134 j = nI (b j) := by
  obtain ⟨len, h1, h2, h3, h4⟩ := h
  refine ⟨len, fun j => (zI S 77 j).toNatClampNeg, h1, h2, h3, fun j hj => ?_⟩
  obtain ⟨e1, c, e2, e3⟩ := h4 j hj
  have e4 : (zI S 77 j).toNatClampNeg = c := by
    rw [e3]
    exact zcl9 (by omega)
  have e5 : zI S 77 j = nI ((zI S 77 j).toNatClampNeg) := by
    rw [e4]
    exact e3
  exact ⟨by show (zI S 77 j).toNatClampNeg < 256; omega, e5, e1.symm.trans e5⟩
theorem zJ.ft {l : List Nat} {S S2 : ZSt} (j : S2.2.2 = S.2.2) (hc : ∀ c, zmem c l = false → zI S2 c = zI S c) (hl : l.all (fun x => zmem x lC) = true) (n0 : (zmem 75 l || (zmem 136 l || (zmem 137 l || (zmem 138 l || zmem 139 l)))) = false) (hk : ∀ j, zmem j lTs = false → zI S2 130 j = zI S 130 j) : zFT S S2 := by
  obtain ⟨z, a⟩ := Bool.or_eq_false_iff.mp n0
  obtain ⟨a, b⟩ := Bool.or_eq_false_iff.mp a
  obtain ⟨b, c⟩ := Bool.or_eq_false_iff.mp b
  obtain ⟨c, d⟩ := Bool.or_eq_false_iff.mp c
  have u1 : zR S2 = zR S := by show S2.2.2.1 = S.2.2.1; rw [j]
  refine ⟨fun x hx _ => hc x (zsub_of hl x hx), ⟨fun k hk' => hk k ?_, fun q _ => by rw [hc 136 a], fun q _ => ⟨by rw [hc 137 b], by rw [hc 138 c], by rw [hc 139 d]⟩⟩, fun x _ => by rw [u1], fun h9 => by rw [u1]; exact h9, by show S2.2.2.2.1 = S.2.2.2.1; rw [j], by show S2.2.2.2.2.1 = S.2.2.2.2.1; rw [j], by show S2.2.2.2.2.2.1 = S.2.2.2.2.2.1; rw [j], fun k _ => by rw [hc 75 z]⟩
  rcases zmemT hk' with e | hk'
  · rw [e]
    rfl
  · rcases zmemT hk' with e | hk'
    · rw [e]
      rfl
    · rcases zmemT hk' with e | hk'
      · rw [e]
        rfl
      · rcases zmemT hk' with e | hk'
        · rw [e]
          rfl
        · cases hk'
theorem zVal_fin {L N : Nat} {S S1 S2 : ZSt} {r : Int64} (h : zInv L N S) (j1 : zJ [76, 78, 79, 80, 92, 93, 94, 95] S S1) (j2 : zJ [130, 132, 135] (zsL S1 161 0 r) S2) (f2 : ∀ j, zmem j lTs = false → zI S2 130 j = zI S 130 j) (a1 : zI S1 76 1 = nI 0) (b5 : zI S2 130 5 = nI 0) (h8 : zI S1 76 8 = zI S2 130 11) (hJ2 : (∀ c, zmem c [76, 78, 79, 80, 92, 93, 94, 95, 130, 132, 135] = false → zI S2 c = zI S c) → jCore S2) : zSh S2 ∧ zL S2 161 0 = r ∧ zInv L (N + 1) S2 := by
  have hS1 := j1.sh h.1
  have hS2 : zSh S2 := j2.sh (show zSh (zsL S1 161 0 r) from hS1)
  have out : ∀ c, zmem c [76, 78, 79, 80, 92, 93, 94, 95, 130, 132, 135] = false → zI S2 c = zI S c := fun c hc => (j2.2 c (zsub_of rfl c hc)).trans (j1.2 c (zsub_of rfl c hc))
  have e76 : zI S2 76 = zI S1 76 := j2.2 76 rfl
  have q1 : S2.2 = (zsL S1 161 0 r).2 := j2.1
  have q2 : S2.2.2 = S.2.2 := by
    rw [q1]
    show S1.2.2 = S.2.2
    rw [j1.1]
  have k : zFT S S2 := zJ.ft q2 out rfl rfl f2
  refine ⟨hS2, ?_, zFT.next h k hS2 (hJ2 out) (jTape0 (by rw [e76]; exact a1) b5) (by rw [e76]; exact h8) (h.ic (congrFun (out 75 rfl) 10) (f2 4 rfl)) ?_ ?_⟩
  · show S2.2.1 161 0 = r
    rw [q1]
    rfl
  · have : zu S2 = zu S := by show S2.2.2.2.2.2.2.1 = S.2.2.2.2.2.2.1; rw [q2]
    omega
  · have : zz S2 = zz S := by show S2.2.2.2.2.2.2.2 = S.2.2.2.2.2.2.2; rw [q2]
    omega
set_option maxHeartbeats 4000000 in
theorem s_valley {L : Nat} : t_valley (zInv L) := fun N S v1 h => by
  have hS := h.1
  have hD := h.D
  have hJ := h.2.1
  have hC := h.2.2.1.1
  obtain ⟨len, b, hl, e1, e5, hb⟩ := h.2.2.1.2.1.b
  by_cases hv : ∃ m, m ≤ len ∧ v1 = nI m
  · obtain ⟨m, hm, rfl⟩ := hv
    have kp : ∀ {S1 : ZSt} {r : Int64}, zJ [76, 78, 79, 80, 92, 93, 94, 95] S S1 → zKp S (zsL S1 161 0 r) := fun {S1 r} j1 => ⟨j1.2 0 rfl, by show S1.2.2.2.2.1 0 = S.2.2.2.2.1 0; rw [j1.1], by show S1.2.2.2.1 0 = S.2.2.2.1 0; rw [j1.1], j1.sh hS⟩
    have go : ∀ {S1 : ZSt} {r : Int64} {Q : ZOut → ZSt → Prop}, zJ [76, 78, 79, 80, 92, 93, 94, 95] S S1 →
        (∀ k t, vlp b m 7 0 (fun _ => 0) tdW 0 = .inl (k, t) → ∀ S', zJ [130, 135] (zsL S1 161 0 r) S' → (∀ j, zmem j lTs = false → zI S' 130 j = zI S 130 j) → zI S' 130 0 = nI 0 → zI S' 130 5 = nI 0 → zI S' 130 11 = nI t → Q (.inl (some (.int (nI k - nI 10)))) S') →
        (∀ d c, vlp b m 7 0 (fun _ => 0) tdW 0 = .inr (d, c) → ∀ S', zJ [130, 132, 135] (zsL S1 161 0 r) S' → (∀ j, zmem j lTs = false → zI S' 130 j = zI S 130 j) → zI S' 130 0 = nI 0 → zI S' 130 5 = nI 0 → zI S' 130 11 = - nI 1 → (∀ j, j < 6 → zI S' 132 j = nI (d j)) → (∀ j, 6 ≤ j → j < 83 → zI S' 132 j = nI 0) → (∀ j, 83 ≤ j → zI S' 132 j = zI S 132 j) → Q (.inl (some (.int (nI c)))) S') → zC m_M_valley [.ref 130, .int (nI m)] (zsL S1 161 0 r) Q := fun {S1 r Q} j1 bad ok => by
      have hC1 : zCst S1 := hC.J j1 rfl
      have c130 : zI (zsL S1 161 0 r) 130 = zI S 130 := j1.2 130 rfl
      have c132 : zI (zsL S1 161 0 r) 132 = zI S 132 := j1.2 132 rfl
      have c134 : zI (zsL S1 161 0 r) 134 = zI S 134 := j1.2 134 rfl
      refine w_M_valley (b := b) (show zSh (zsL S1 161 0 r) from j1.sh hS) hC1 (by rw [c130]; exact e5) hl hm (fun j hj => ⟨(hb j (by omega)).1, by rw [c134]; exact (hb j (by omega)).2.2⟩) ?_ ?_
      · rw [c130]
        exact bad
      · rw [c130, c132]
        exact ok
    refine b_L_valley hS (w_N_valley hS hC e1 hl hm (fun j hj => ⟨(hb j (by omega)).1, (hb j (by omega)).2.1⟩) (fun k t hw S1 j1' a1 a8 => ?_) (fun d c hw h6 hz S1 j1 a1 a8 r93 z94 z95 z92 => ?_))
    · have j1 : zJ [76, 78, 79, 80, 92, 93, 94, 95] S S1 := ⟨j1'.1, fun c hc => j1'.2 c (zsub_of rfl c hc)⟩
      refine b_L_valley_5 (j1.sh hS) ⟨zinl rfl, _, rfl, kp j1, go j1 (fun k' t' hw' S2 j2' f2 b0 b5 b11 => ?_) (fun d c hw' => by rw [hw] at hw'; cases hw')⟩
      rw [hw] at hw'
      cases hw'
      have j2 : zJ [130, 132, 135] (zsL S1 161 0 (nI k - nI 10).toInt64) S2 := ⟨j2'.1, fun c hc => j2'.2 c (zsub_of rfl c hc)⟩
      obtain ⟨u1, u2, u3⟩ := zVal_fin h j1 j2 f2 a1 b5 (by rw [a8, b11]) (fun _ => jCore_cong (fun c hc => (j2'.2 c (zdis_of rfl c hc)).trans (j1'.2 c (zdis_of rfl c hc))) hJ)
      exact ⟨_, rfl, _, rfl, b0, fun _ => u2, u1, u3⟩
    · refine b_L_valley_5 (j1.sh hS) ⟨zinl rfl, _, rfl, kp j1, go j1 (fun k' t' hw' => by rw [hw] at hw'; cases hw') (fun d' c' hw' S2 j2 f2 b0 b5 b11 r6 r83 rr => ?_)⟩
      rw [hw] at hw'
      cases hw'
      have y : ∀ c, zmem c [130, 132, 135] = false → zI S2 c = zI S1 c := fun c hc => j2.2 c hc
      obtain ⟨u1, u2, u3⟩ := zVal_fin h j1 j2 f2 a1 b5 (by rw [a8, b11]) (fun out => jCore_valley hJ hz (fun c hc => out c (zdis_of rfl c hc)) (r93.c (y 93 rfl)) (fun j hj => (congrFun (y 94 rfl) j).trans (z94 j hj)) (fun j hj => (congrFun (y 95 rfl) j).trans (z95 j hj)) ((congrFun (y 92 rfl) 3).trans z92) r6 r83 rr)
      exact ⟨_, rfl, _, rfl, b0, fun _ => u2, u1, u3⟩
  · exact zC.imp (y_valley0 hS hD hJ e1 e5 hl (fun i hi e => hv ⟨i, hi, e⟩)) (fun o S1 r => r.imp (fun kk b S2 a => zAns4.P h a))
