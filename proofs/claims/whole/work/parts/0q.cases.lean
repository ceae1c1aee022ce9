/-! The law's cases -/
/-- what a case asks of the two calls; P: what stays -/
def zAnsP (P : ZSt → Prop) : Int32 → Value → ZSt → Prop := fun kk b S2 => ∃ b' : Int32, b = .int b' ∧ zI S2 130 0 = kk ∧ (kk = nI 0 → zL S2 161 0 = b'.toInt64) ∧ zSh S2 ∧ P S2
def zAnsPB (P : ZSt → Prop) : Int32 → Value → ZSt → Prop := fun kk b S2 => ∃ b' : Int32, b = .int b' ∧ (b' = nI 0 ∨ b' = nI 1) ∧ zI S2 130 0 = kk ∧ (kk = nI 0 → zL S2 161 0 = b'.toInt64) ∧ zSh S2 ∧ P S2
def zSayP (P : ZSt → Prop) : Int32 → Value → ZSt → Prop := fun a b S2 => b = .int a ∧ zSh S2 ∧ P S2
/-- where a case goes on -/
def zNext (i : Nat) (P : ZSt → Prop) (Q : ZOut → ZSt → Prop) : Prop := ∀ (S2 : ZSt) (w5 w6 : Option Value), zSh S2 → P S2 → zW 102 m_L_law 2213 [some (.ref 0), some (.ref 75), some (.ref 130), some (.ref 161), some (.int (nI i)), w5, w6] [] S2 Q
theorem zci {i k : Nat} (h : i + k < 2 ^ 31) : (nI i + nI k).toNatClampNeg = i + k := by
  rw [nI_add]
  exact zcl9 h
theorem zvi {i k L : Nat} (h : i + k < L) (hL : L ≤ 3584) : vp_in (nI i + nI k) L := by
  rw [nI_add]
  exact zin h (by omega)
theorem c_feed {i L : Nat} {u5 u6 : Option Value} {S : ZSt} {Q : ZOut → ZSt → Prop} {P : ZSt → Prop} (hS : zSh S) (h0 : zc S 0 = 105) (hn : zn S 0 = L) (hi : i + 7 ≤ L) (hL : L ≤ 3584)
    (hp : zC m_N_feed [.ref 75, .int (zI S 0 (i + 1)), .int (zI S 0 (i + 2)), .int (zI S 0 (i + 3)), .int (zI S 0 (i + 4)), .int (zI S 0 (i + 5))] S (zTwoR S m_M_feed [.int (zI S 0 (i + 1)), .int (zI S 0 (i + 2)), .int (zI S 0 (i + 3)), .int (zI S 0 (i + 4)), .int (zI S 0 (i + 5))] (zSayP P))) (hk : zNext i P Q) : zW 102 m_L_law 25 [some (.ref 0), some (.ref 75), some (.ref 130), some (.ref 161), some (.int (nI i)), u5, u6] [] S Q := by
  refine b_L_law_25 hS ?_
  rw [hn, zci (i := i) (k := 1) (by omega), zci (i := i) (k := 2) (by omega), zci (i := i) (k := 3) (by omega), zci (i := i) (k := 4) (by omega), zci (i := i) (k := 5) (by omega)]
  refine ⟨h0, zvi (by omega) hL, h0, zvi (by omega) hL, h0, zvi (by omega) hL, h0, zvi (by omega) hL, h0, zvi (by omega) hL, ?_⟩
  refine zC.imp hp (fun o S1 h1 => ?_)
  obtain ⟨kk, rfl, ⟨k1, k2, k3, k4⟩, h2⟩ := h1
  refine b_L_law_52 k4 ?_
  rw [k3, hn, zci (i := i) (k := 1) (by omega), zci (i := i) (k := 2) (by omega), zci (i := i) (k := 3) (by omega), zci (i := i) (k := 4) (by omega), zci (i := i) (k := 5) (by omega), k1]
  refine ⟨(k2.trans h0), zvi (by omega) hL, (k2.trans h0), zvi (by omega) hL, (k2.trans h0), zvi (by omega) hL, (k2.trans h0), zvi (by omega) hL, (k2.trans h0), zvi (by omega) hL, ?_⟩
  refine zC.imp h2 (fun o2 S2 h3 => ?_)
  obtain ⟨b, rfl, rfl, hS2, hP⟩ := h3
  exact b_L_law_79 hS2 ⟨fun _ => hk S2 _ _ hS2 hP, fun h9 => absurd rfl h9⟩
theorem c_valley {i L : Nat} {u5 u6 : Option Value} {S : ZSt} {Q : ZOut → ZSt → Prop} {P : ZSt → Prop} (hS : zSh S) (h0 : zc S 0 = 105) (hn : zn S 0 = L) (hi : i + 7 ≤ L) (hL : L ≤ 3584)
    (hp : zC m_L_valley [.ref 75, .int (zI S 0 (i + 1)), .ref 161] S (zTwoR S m_M_valley [.int (zI S 0 (i + 1))] (zAnsP P))) (hk : zNext i P Q) : zW 102 m_L_law 82 [some (.ref 0), some (.ref 75), some (.ref 130), some (.ref 161), some (.int (nI i)), u5, u6] [] S Q := by
  refine b_L_law_82 hS ?_
  rw [hn, zci (i := i) (k := 1) (by omega)]
  refine ⟨h0, zvi (by omega) hL, ?_⟩
  refine zC.imp hp (fun o S1 h1 => ?_)
  obtain ⟨kk, rfl, ⟨k1, k2, k3, k4⟩, h2⟩ := h1
  refine b_L_law_90 k4 ?_
  rw [k3, hn, zci (i := i) (k := 1) (by omega), k1]
  refine ⟨(k2.trans h0), zvi (by omega) hL, ?_⟩
  refine zC.imp h2 (fun o2 S2 h3 => ?_)
  obtain ⟨b, rfl, b', rfl, e130, eout, hS2, hP⟩ := h3
  refine b_L_law_98 hS2 (b_M_thrown hS2 (b_L_law_101 hS2 ?_))
  rw [e130]
  exact ⟨fun _ => ⟨fun _ => hk S2 _ _ hS2 hP, fun h9 => ⟨zinl rfl, fun _ => hk S2 _ _ hS2 hP, fun h8 => absurd (lg_eq0.mpr (eout ((Classical.not_not.mp h9).trans nI_0.symm))) h8⟩⟩, fun h9 => absurd rfl h9⟩
theorem c_way {i L : Nat} {u5 u6 : Option Value} {S : ZSt} {Q : ZOut → ZSt → Prop} {P : ZSt → Prop} (hS : zSh S) (h0 : zc S 0 = 105) (hn : zn S 0 = L) (hi : i + 7 ≤ L) (hL : L ≤ 3584)
    (hp : zC m_L_way [.ref 75, .int (zI S 0 (i + 1)), .ref 161] S (zTwoR S m_M_way [.int (zI S 0 (i + 1))] (zAnsP P))) (hk : zNext i P Q) : zW 102 m_L_law 117 [some (.ref 0), some (.ref 75), some (.ref 130), some (.ref 161), some (.int (nI i)), u5, u6] [] S Q := by
  refine b_L_law_117 hS ?_
  rw [hn, zci (i := i) (k := 1) (by omega)]
  refine ⟨h0, zvi (by omega) hL, ?_⟩
  refine zC.imp hp (fun o S1 h1 => ?_)
  obtain ⟨kk, rfl, ⟨k1, k2, k3, k4⟩, h2⟩ := h1
  refine b_L_law_125 k4 ?_
  rw [k3, hn, zci (i := i) (k := 1) (by omega), k1]
  refine ⟨(k2.trans h0), zvi (by omega) hL, ?_⟩
  refine zC.imp h2 (fun o2 S2 h3 => ?_)
  obtain ⟨b, rfl, b', rfl, e130, eout, hS2, hP⟩ := h3
  refine b_L_law_133 hS2 (b_M_thrown hS2 (b_L_law_136 hS2 ?_))
  rw [e130]
  exact ⟨fun _ => ⟨fun _ => hk S2 _ _ hS2 hP, fun h9 => ⟨zinl rfl, fun _ => hk S2 _ _ hS2 hP, fun h8 => absurd (lg_eq0.mpr (eout ((Classical.not_not.mp h9).trans nI_0.symm))) h8⟩⟩, fun h9 => absurd rfl h9⟩
theorem c_task {i L : Nat} {u5 u6 : Option Value} {S : ZSt} {Q : ZOut → ZSt → Prop} {P : ZSt → Prop} (hS : zSh S) (h0 : zc S 0 = 105) (hn : zn S 0 = L) (hi : i + 7 ≤ L) (hL : L ≤ 3584)
    (hp : zC m_L_task [.ref 75, .int (zI S 0 (i + 1)), .ref 161] S (zTwoR S m_M_task [.int (zI S 0 (i + 1))] (zAnsP P))) (hk : zNext i P Q) : zW 102 m_L_law 152 [some (.ref 0), some (.ref 75), some (.ref 130), some (.ref 161), some (.int (nI i)), u5, u6] [] S Q := by
  refine b_L_law_152 hS ?_
  rw [hn, zci (i := i) (k := 1) (by omega)]
  refine ⟨h0, zvi (by omega) hL, ?_⟩
  refine zC.imp hp (fun o S1 h1 => ?_)
  obtain ⟨kk, rfl, ⟨k1, k2, k3, k4⟩, h2⟩ := h1
  refine b_L_law_160 k4 ?_
  rw [k3, hn, zci (i := i) (k := 1) (by omega), k1]
  refine ⟨(k2.trans h0), zvi (by omega) hL, ?_⟩
  refine zC.imp h2 (fun o2 S2 h3 => ?_)
  obtain ⟨b, rfl, b', rfl, e130, eout, hS2, hP⟩ := h3
  refine b_L_law_168 hS2 (b_M_thrown hS2 (b_L_law_171 hS2 ?_))
  rw [e130]
  exact ⟨fun _ => ⟨fun _ => hk S2 _ _ hS2 hP, fun h9 => ⟨zinl rfl, fun _ => hk S2 _ _ hS2 hP, fun h8 => absurd (lg_eq0.mpr (eout ((Classical.not_not.mp h9).trans nI_0.symm))) h8⟩⟩, fun h9 => absurd rfl h9⟩
theorem c_fault {i L : Nat} {u5 u6 : Option Value} {S : ZSt} {Q : ZOut → ZSt → Prop} {P : ZSt → Prop} (hS : zSh S) (h0 : zc S 0 = 105) (hn : zn S 0 = L) (hi : i + 7 ≤ L) (hL : L ≤ 3584)
    (hp : zC m_N_fault [.ref 75] S (zTwoR S m_M_fault [] (zSayP P))) (hk : zNext i P Q) : zW 102 m_L_law 187 [some (.ref 0), some (.ref 75), some (.ref 130), some (.ref 161), some (.int (nI i)), u5, u6] [] S Q := by
  refine b_L_law_187 hS ?_
  refine zC.imp hp (fun o S1 h1 => ?_)
  obtain ⟨kk, rfl, ⟨k1, k2, k3, k4⟩, h2⟩ := h1
  refine b_L_law_189 k4 ?_
  refine zC.imp h2 (fun o2 S2 h3 => ?_)
  obtain ⟨b, rfl, rfl, hS2, hP⟩ := h3
  exact b_L_law_191 hS2 ⟨fun _ => hk S2 _ _ hS2 hP, fun h9 => absurd rfl h9⟩
theorem c_told {i L : Nat} {u5 u6 : Option Value} {S : ZSt} {Q : ZOut → ZSt → Prop} {P : ZSt → Prop} (hS : zSh S) (h0 : zc S 0 = 105) (hn : zn S 0 = L) (hi : i + 7 ≤ L) (hL : L ≤ 3584)
    (hp : zC m_L_told [.ref 75, .int (zI S 0 (i + 1)), .ref 161] S (zTwoR S m_M_told [.int (zI S 0 (i + 1))] (zAnsP P))) (hk : zNext i P Q) : zW 102 m_L_law 194 [some (.ref 0), some (.ref 75), some (.ref 130), some (.ref 161), some (.int (nI i)), u5, u6] [] S Q := by
  refine b_L_law_194 hS ?_
  rw [hn, zci (i := i) (k := 1) (by omega)]
  refine ⟨h0, zvi (by omega) hL, ?_⟩
  refine zC.imp hp (fun o S1 h1 => ?_)
  obtain ⟨kk, rfl, ⟨k1, k2, k3, k4⟩, h2⟩ := h1
  refine b_L_law_202 k4 ?_
  rw [k3, hn, zci (i := i) (k := 1) (by omega), k1]
  refine ⟨(k2.trans h0), zvi (by omega) hL, ?_⟩
  refine zC.imp h2 (fun o2 S2 h3 => ?_)
  obtain ⟨b, rfl, b', rfl, e130, eout, hS2, hP⟩ := h3
  refine b_L_law_210 hS2 (b_M_thrown hS2 (b_L_law_213 hS2 ?_))
  rw [e130]
  exact ⟨fun _ => ⟨fun _ => hk S2 _ _ hS2 hP, fun h9 => ⟨zinl rfl, fun _ => hk S2 _ _ hS2 hP, fun h8 => absurd (lg_eq0.mpr (eout ((Classical.not_not.mp h9).trans nI_0.symm))) h8⟩⟩, fun h9 => absurd rfl h9⟩
theorem c_act {i L : Nat} {u5 u6 : Option Value} {S : ZSt} {Q : ZOut → ZSt → Prop} {P : ZSt → Prop} (hS : zSh S) (h0 : zc S 0 = 105) (hn : zn S 0 = L) (hi : i + 7 ≤ L) (hL : L ≤ 3584)
    (hp : zC m_L_act [.ref 75, .int (zI S 0 (i + 1)), .int (zI S 0 (i + 2)), .int (zI S 0 (i + 3)), .ref 161] S (zTwoR S m_M_act [.int (zI S 0 (i + 1)), .int (zI S 0 (i + 2)), .int (zI S 0 (i + 3))] (zAnsP P))) (hk : zNext i P Q) : zW 102 m_L_law 229 [some (.ref 0), some (.ref 75), some (.ref 130), some (.ref 161), some (.int (nI i)), u5, u6] [] S Q := by
  refine b_L_law_229 hS ?_
  rw [hn, zci (i := i) (k := 1) (by omega), zci (i := i) (k := 2) (by omega), zci (i := i) (k := 3) (by omega)]
  refine ⟨h0, zvi (by omega) hL, h0, zvi (by omega) hL, h0, zvi (by omega) hL, ?_⟩
  refine zC.imp hp (fun o S1 h1 => ?_)
  obtain ⟨kk, rfl, ⟨k1, k2, k3, k4⟩, h2⟩ := h1
  refine b_L_law_247 k4 ?_
  rw [k3, hn, zci (i := i) (k := 1) (by omega), zci (i := i) (k := 2) (by omega), zci (i := i) (k := 3) (by omega), k1]
  refine ⟨(k2.trans h0), zvi (by omega) hL, (k2.trans h0), zvi (by omega) hL, (k2.trans h0), zvi (by omega) hL, ?_⟩
  refine zC.imp h2 (fun o2 S2 h3 => ?_)
  obtain ⟨b, rfl, b', rfl, e130, eout, hS2, hP⟩ := h3
  refine b_L_law_265 hS2 (b_M_thrown hS2 (b_L_law_268 hS2 ?_))
  rw [e130]
  exact ⟨fun _ => ⟨fun _ => hk S2 _ _ hS2 hP, fun h9 => ⟨zinl rfl, fun _ => hk S2 _ _ hS2 hP, fun h8 => absurd (lg_eq0.mpr (eout ((Classical.not_not.mp h9).trans nI_0.symm))) h8⟩⟩, fun h9 => absurd rfl h9⟩
theorem c_judge {i L : Nat} {u5 u6 : Option Value} {S : ZSt} {Q : ZOut → ZSt → Prop} {P : ZSt → Prop} (hS : zSh S) (h0 : zc S 0 = 105) (hn : zn S 0 = L) (hi : i + 7 ≤ L) (hL : L ≤ 3584)
    (hp : zC m_L_judge [.ref 75, .int (zI S 0 (i + 1)), .ref 161] S (zTwoR S m_M_judge [.int (zI S 0 (i + 1))] (zAnsP P))) (hk : zNext i P Q) : zW 102 m_L_law 284 [some (.ref 0), some (.ref 75), some (.ref 130), some (.ref 161), some (.int (nI i)), u5, u6] [] S Q := by
  refine b_L_law_284 hS ?_
  rw [hn, zci (i := i) (k := 1) (by omega)]
  refine ⟨h0, zvi (by omega) hL, ?_⟩
  refine zC.imp hp (fun o S1 h1 => ?_)
  obtain ⟨kk, rfl, ⟨k1, k2, k3, k4⟩, h2⟩ := h1
  refine b_L_law_292 k4 ?_
  rw [k3, hn, zci (i := i) (k := 1) (by omega), k1]
  refine ⟨(k2.trans h0), zvi (by omega) hL, ?_⟩
  refine zC.imp h2 (fun o2 S2 h3 => ?_)
  obtain ⟨b, rfl, b', rfl, e130, eout, hS2, hP⟩ := h3
  refine b_L_law_300 hS2 (b_M_thrown hS2 (b_L_law_303 hS2 ?_))
  rw [e130]
  exact ⟨fun _ => ⟨fun _ => hk S2 _ _ hS2 hP, fun h9 => ⟨zinl rfl, fun _ => hk S2 _ _ hS2 hP, fun h8 => absurd (lg_eq0.mpr (eout ((Classical.not_not.mp h9).trans nI_0.symm))) h8⟩⟩, fun h9 => absurd rfl h9⟩
theorem c_heap {i L : Nat} {u5 u6 : Option Value} {S : ZSt} {Q : ZOut → ZSt → Prop} {P : ZSt → Prop} (hS : zSh S) (h0 : zc S 0 = 105) (hn : zn S 0 = L) (hi : i + 7 ≤ L) (hL : L ≤ 3584)
    (hp : zC m_L_heap [.ref 75, .int (zI S 0 (i + 1)), .int (zI S 0 (i + 2)), .ref 161] S (zTwoR S m_M_heap [.int (zI S 0 (i + 1)), .int (zI S 0 (i + 2))] (zAnsP P))) (hk : zNext i P Q) : zW 102 m_L_law 319 [some (.ref 0), some (.ref 75), some (.ref 130), some (.ref 161), some (.int (nI i)), u5, u6] [] S Q := by
  refine b_L_law_319 hS ?_
  rw [hn, zci (i := i) (k := 1) (by omega), zci (i := i) (k := 2) (by omega)]
  refine ⟨h0, zvi (by omega) hL, h0, zvi (by omega) hL, ?_⟩
  refine zC.imp hp (fun o S1 h1 => ?_)
  obtain ⟨kk, rfl, ⟨k1, k2, k3, k4⟩, h2⟩ := h1
  refine b_L_law_332 k4 ?_
  rw [k3, hn, zci (i := i) (k := 1) (by omega), zci (i := i) (k := 2) (by omega), k1]
  refine ⟨(k2.trans h0), zvi (by omega) hL, (k2.trans h0), zvi (by omega) hL, ?_⟩
  refine zC.imp h2 (fun o2 S2 h3 => ?_)
  obtain ⟨b, rfl, b', rfl, e130, eout, hS2, hP⟩ := h3
  refine b_L_law_345 hS2 (b_M_thrown hS2 (b_L_law_348 hS2 ?_))
  rw [e130]
  exact ⟨fun _ => ⟨fun _ => hk S2 _ _ hS2 hP, fun h9 => ⟨zinl rfl, fun _ => hk S2 _ _ hS2 hP, fun h8 => absurd (lg_eq0.mpr (eout ((Classical.not_not.mp h9).trans nI_0.symm))) h8⟩⟩, fun h9 => absurd rfl h9⟩
theorem c_place {i L : Nat} {u5 u6 : Option Value} {S : ZSt} {Q : ZOut → ZSt → Prop} {P : ZSt → Prop} (hS : zSh S) (h0 : zc S 0 = 105) (hn : zn S 0 = L) (hi : i + 7 ≤ L) (hL : L ≤ 3584)
    (hp : zC m_L_place [.ref 75, .int (zI S 0 (i + 1)), .int (zI S 0 (i + 2)), .ref 161] S (zTwoR S m_M_place [.int (zI S 0 (i + 1)), .int (zI S 0 (i + 2))] (zAnsP P))) (hk : zNext i P Q) : zW 102 m_L_law 364 [some (.ref 0), some (.ref 75), some (.ref 130), some (.ref 161), some (.int (nI i)), u5, u6] [] S Q := by
  refine b_L_law_364 hS ?_
  rw [hn, zci (i := i) (k := 1) (by omega), zci (i := i) (k := 2) (by omega)]
  refine ⟨h0, zvi (by omega) hL, h0, zvi (by omega) hL, ?_⟩
  refine zC.imp hp (fun o S1 h1 => ?_)
  obtain ⟨kk, rfl, ⟨k1, k2, k3, k4⟩, h2⟩ := h1
  refine b_L_law_377 k4 ?_
  rw [k3, hn, zci (i := i) (k := 1) (by omega), zci (i := i) (k := 2) (by omega), k1]
  refine ⟨(k2.trans h0), zvi (by omega) hL, (k2.trans h0), zvi (by omega) hL, ?_⟩
  refine zC.imp h2 (fun o2 S2 h3 => ?_)
  obtain ⟨b, rfl, b', rfl, e130, eout, hS2, hP⟩ := h3
  refine b_L_law_390 hS2 (b_M_thrown hS2 (b_L_law_393 hS2 ?_))
  rw [e130]
  exact ⟨fun _ => ⟨fun _ => hk S2 _ _ hS2 hP, fun h9 => ⟨zinl rfl, fun _ => hk S2 _ _ hS2 hP, fun h8 => absurd (lg_eq0.mpr (eout ((Classical.not_not.mp h9).trans nI_0.symm))) h8⟩⟩, fun h9 => absurd rfl h9⟩
theorem c_run {i L : Nat} {u5 u6 : Option Value} {S : ZSt} {Q : ZOut → ZSt → Prop} {P : ZSt → Prop} (hS : zSh S) (h0 : zc S 0 = 105) (hn : zn S 0 = L) (hi : i + 7 ≤ L) (hL : L ≤ 3584)
    (hp : zC m_L_run [.ref 75, .int (zI S 0 (i + 1)), .int (zI S 0 (i + 2)), .ref 161] S (zTwoR S m_M_run [.int (zI S 0 (i + 1)), .int (zI S 0 (i + 2))] (zAnsP P))) (hk : zNext i P Q) : zW 102 m_L_law 409 [some (.ref 0), some (.ref 75), some (.ref 130), some (.ref 161), some (.int (nI i)), u5, u6] [] S Q := by
  refine b_L_law_409 hS ?_
  rw [hn, zci (i := i) (k := 1) (by omega), zci (i := i) (k := 2) (by omega)]
  refine ⟨h0, zvi (by omega) hL, h0, zvi (by omega) hL, ?_⟩
  refine zC.imp hp (fun o S1 h1 => ?_)
  obtain ⟨kk, rfl, ⟨k1, k2, k3, k4⟩, h2⟩ := h1
  refine b_L_law_422 k4 ?_
  rw [k3, hn, zci (i := i) (k := 1) (by omega), zci (i := i) (k := 2) (by omega), k1]
  refine ⟨(k2.trans h0), zvi (by omega) hL, (k2.trans h0), zvi (by omega) hL, ?_⟩
  refine zC.imp h2 (fun o2 S2 h3 => ?_)
  obtain ⟨b, rfl, b', rfl, e130, eout, hS2, hP⟩ := h3
  refine b_L_law_435 hS2 (b_M_thrown hS2 (b_L_law_438 hS2 ?_))
  rw [e130]
  exact ⟨fun _ => ⟨fun _ => hk S2 _ _ hS2 hP, fun h9 => ⟨zinl rfl, fun _ => hk S2 _ _ hS2 hP, fun h8 => absurd (lg_eq0.mpr (eout ((Classical.not_not.mp h9).trans nI_0.symm))) h8⟩⟩, fun h9 => absurd rfl h9⟩
theorem c_ends {i L : Nat} {u5 u6 : Option Value} {S : ZSt} {Q : ZOut → ZSt → Prop} {P : ZSt → Prop} (hS : zSh S) (h0 : zc S 0 = 105) (hn : zn S 0 = L) (hi : i + 7 ≤ L) (hL : L ≤ 3584)
    (hp : zC m_L_ends [.ref 75, .int (zI S 0 (i + 1)), .ref 161] S (zTwoR S m_M_ends [.int (zI S 0 (i + 1))] (zAnsP P))) (hk : zNext i P Q) : zW 102 m_L_law 454 [some (.ref 0), some (.ref 75), some (.ref 130), some (.ref 161), some (.int (nI i)), u5, u6] [] S Q := by
  refine b_L_law_454 hS ?_
  rw [hn, zci (i := i) (k := 1) (by omega)]
  refine ⟨h0, zvi (by omega) hL, ?_⟩
  refine zC.imp hp (fun o S1 h1 => ?_)
  obtain ⟨kk, rfl, ⟨k1, k2, k3, k4⟩, h2⟩ := h1
  refine b_L_law_462 k4 ?_
  rw [k3, hn, zci (i := i) (k := 1) (by omega), k1]
  refine ⟨(k2.trans h0), zvi (by omega) hL, ?_⟩
  refine zC.imp h2 (fun o2 S2 h3 => ?_)
  obtain ⟨b, rfl, b', rfl, e130, eout, hS2, hP⟩ := h3
  refine b_L_law_470 hS2 (b_M_thrown hS2 (b_L_law_473 hS2 ?_))
  rw [e130]
  exact ⟨fun _ => ⟨fun _ => hk S2 _ _ hS2 hP, fun h9 => ⟨zinl rfl, fun _ => hk S2 _ _ hS2 hP, fun h8 => absurd (lg_eq0.mpr (eout ((Classical.not_not.mp h9).trans nI_0.symm))) h8⟩⟩, fun h9 => absurd rfl h9⟩
theorem c_row {i L : Nat} {u5 u6 : Option Value} {S : ZSt} {Q : ZOut → ZSt → Prop} {P : ZSt → Prop} (hS : zSh S) (h0 : zc S 0 = 105) (hn : zn S 0 = L) (hi : i + 7 ≤ L) (hL : L ≤ 3584)
    (hp : zC m_L_row [.ref 75, .int (zI S 0 (i + 1)), .ref 161] S (zTwoR S m_M_row [.int (zI S 0 (i + 1))] (zAnsP P))) (hk : zNext i P Q) : zW 102 m_L_law 489 [some (.ref 0), some (.ref 75), some (.ref 130), some (.ref 161), some (.int (nI i)), u5, u6] [] S Q := by
  refine b_L_law_489 hS ?_
  rw [hn, zci (i := i) (k := 1) (by omega)]
  refine ⟨h0, zvi (by omega) hL, ?_⟩
  refine zC.imp hp (fun o S1 h1 => ?_)
  obtain ⟨kk, rfl, ⟨k1, k2, k3, k4⟩, h2⟩ := h1
  refine b_L_law_497 k4 ?_
  rw [k3, hn, zci (i := i) (k := 1) (by omega), k1]
  refine ⟨(k2.trans h0), zvi (by omega) hL, ?_⟩
  refine zC.imp h2 (fun o2 S2 h3 => ?_)
  obtain ⟨b, rfl, b', rfl, e130, eout, hS2, hP⟩ := h3
  refine b_L_law_505 hS2 (b_M_thrown hS2 (b_L_law_508 hS2 ?_))
  rw [e130]
  exact ⟨fun _ => ⟨fun _ => hk S2 _ _ hS2 hP, fun h9 => ⟨zinl rfl, fun _ => hk S2 _ _ hS2 hP, fun h8 => absurd (lg_eq0.mpr (eout ((Classical.not_not.mp h9).trans nI_0.symm))) h8⟩⟩, fun h9 => absurd rfl h9⟩
theorem c_left {i L : Nat} {u5 u6 : Option Value} {S : ZSt} {Q : ZOut → ZSt → Prop} {P : ZSt → Prop} (hS : zSh S) (h0 : zc S 0 = 105) (hn : zn S 0 = L) (hi : i + 7 ≤ L) (hL : L ≤ 3584)
    (hp : zC m_L_left [.ref 75, .int (zI S 0 (i + 1)), .ref 161] S (zTwoR S m_M_left [.int (zI S 0 (i + 1))] (zAnsP P))) (hk : zNext i P Q) : zW 102 m_L_law 524 [some (.ref 0), some (.ref 75), some (.ref 130), some (.ref 161), some (.int (nI i)), u5, u6] [] S Q := by
  refine b_L_law_524 hS ?_
  rw [hn, zci (i := i) (k := 1) (by omega)]
  refine ⟨h0, zvi (by omega) hL, ?_⟩
  refine zC.imp hp (fun o S1 h1 => ?_)
  obtain ⟨kk, rfl, ⟨k1, k2, k3, k4⟩, h2⟩ := h1
  refine b_L_law_532 k4 ?_
  rw [k3, hn, zci (i := i) (k := 1) (by omega), k1]
  refine ⟨(k2.trans h0), zvi (by omega) hL, ?_⟩
  refine zC.imp h2 (fun o2 S2 h3 => ?_)
  obtain ⟨b, rfl, b', rfl, e130, eout, hS2, hP⟩ := h3
  refine b_L_law_540 hS2 (b_M_thrown hS2 (b_L_law_543 hS2 ?_))
  rw [e130]
  exact ⟨fun _ => ⟨fun _ => hk S2 _ _ hS2 hP, fun h9 => ⟨zinl rfl, fun _ => hk S2 _ _ hS2 hP, fun h8 => absurd (lg_eq0.mpr (eout ((Classical.not_not.mp h9).trans nI_0.symm))) h8⟩⟩, fun h9 => absurd rfl h9⟩
theorem c_on {i L : Nat} {u5 u6 : Option Value} {S : ZSt} {Q : ZOut → ZSt → Prop} {P : ZSt → Prop} (hS : zSh S) (h0 : zc S 0 = 105) (hn : zn S 0 = L) (hi : i + 7 ≤ L) (hL : L ≤ 3584)
    (hp : zC m_N_on [.ref 75] S (zTwoR S m_M_on [] (zSayP P))) (hk : zNext i P Q) : zW 102 m_L_law 559 [some (.ref 0), some (.ref 75), some (.ref 130), some (.ref 161), some (.int (nI i)), u5, u6] [] S Q := by
  refine b_L_law_559 hS ?_
  refine zC.imp hp (fun o S1 h1 => ?_)
  obtain ⟨kk, rfl, ⟨k1, k2, k3, k4⟩, h2⟩ := h1
  refine b_L_law_561 k4 ?_
  refine zC.imp h2 (fun o2 S2 h3 => ?_)
  obtain ⟨b, rfl, rfl, hS2, hP⟩ := h3
  exact b_L_law_563 hS2 ⟨fun _ => hk S2 _ _ hS2 hP, fun h9 => absurd rfl h9⟩
theorem c_holds {i L : Nat} {u5 u6 : Option Value} {S : ZSt} {Q : ZOut → ZSt → Prop} {P : ZSt → Prop} (hS : zSh S) (h0 : zc S 0 = 105) (hn : zn S 0 = L) (hi : i + 7 ≤ L) (hL : L ≤ 3584)
    (hp : zC m_L_holds [.ref 75, .int (zI S 0 (i + 1)), .int (zI S 0 (i + 2)), .ref 161] S (zTwoR S m_M_holds [.int (zI S 0 (i + 1)), .int (zI S 0 (i + 2))] (zAnsPB P))) (hk : zNext i P Q) : zW 102 m_L_law 566 [some (.ref 0), some (.ref 75), some (.ref 130), some (.ref 161), some (.int (nI i)), u5, u6] [] S Q := by
  refine b_L_law_566 hS ?_
  rw [hn, zci (i := i) (k := 1) (by omega), zci (i := i) (k := 2) (by omega)]
  refine ⟨h0, zvi (by omega) hL, h0, zvi (by omega) hL, ?_⟩
  refine zC.imp hp (fun o S1 h1 => ?_)
  obtain ⟨kk, rfl, ⟨k1, k2, k3, k4⟩, h2⟩ := h1
  refine b_L_law_579 k4 ?_
  rw [k3, hn, zci (i := i) (k := 1) (by omega), zci (i := i) (k := 2) (by omega), k1]
  refine ⟨(k2.trans h0), zvi (by omega) hL, (k2.trans h0), zvi (by omega) hL, ?_⟩
  refine zC.imp h2 (fun o2 S2 h3 => ?_)
  obtain ⟨b, rfl, b', rfl, hb01, e130, eout, hS2, hP⟩ := h3
  refine b_L_law_592 hS2 (b_M_thrown hS2 (b_L_law_595 hS2 ?_))
  rw [e130]
  refine ⟨fun _ => ⟨fun _ => hk S2 _ _ hS2 hP, fun h9 => ⟨zinl rfl, fun h8 => ⟨fun _ => hk S2 _ _ hS2 hP, fun h7 => absurd (lg_eq0.mpr ?_) h7⟩, fun h8 => ⟨fun _ => hk S2 _ _ hS2 hP, fun h7 => absurd (lg_eq0.mpr ?_) h7⟩⟩⟩, fun h9 => absurd rfl h9⟩
  · rw [eout ((Classical.not_not.mp h9).trans nI_0.symm), h8]
    rfl
  · rcases hb01 with hb | hb
    · exact absurd (hb.trans nI_0) h8
    · rw [eout ((Classical.not_not.mp h9).trans nI_0.symm), hb]
      exact zlN1.symm
theorem c_right {i L : Nat} {u5 u6 : Option Value} {S : ZSt} {Q : ZOut → ZSt → Prop} {P : ZSt → Prop} (hS : zSh S) (h0 : zc S 0 = 105) (hn : zn S 0 = L) (hi : i + 7 ≤ L) (hL : L ≤ 3584)
    (hp : zC m_L_right [.ref 75, .int (zI S 0 (i + 1)), .int (zI S 0 (i + 2)), .int (zI S 0 (i + 3)), .int (zI S 0 (i + 4)), .ref 161] S (zTwoR S m_M_right [.int (zI S 0 (i + 1)), .int (zI S 0 (i + 2)), .int (zI S 0 (i + 3)), .int (zI S 0 (i + 4))] (zAnsP P))) (hk : zNext i P Q) : zW 102 m_L_law 614 [some (.ref 0), some (.ref 75), some (.ref 130), some (.ref 161), some (.int (nI i)), u5, u6] [] S Q := by
  refine b_L_law_614 hS ?_
  rw [hn, zci (i := i) (k := 1) (by omega), zci (i := i) (k := 2) (by omega), zci (i := i) (k := 3) (by omega), zci (i := i) (k := 4) (by omega)]
  refine ⟨h0, zvi (by omega) hL, h0, zvi (by omega) hL, h0, zvi (by omega) hL, h0, zvi (by omega) hL, ?_⟩
  refine zC.imp hp (fun o S1 h1 => ?_)
  obtain ⟨kk, rfl, ⟨k1, k2, k3, k4⟩, h2⟩ := h1
  refine b_L_law_637 k4 ?_
  rw [k3, hn, zci (i := i) (k := 1) (by omega), zci (i := i) (k := 2) (by omega), zci (i := i) (k := 3) (by omega), zci (i := i) (k := 4) (by omega), k1]
  refine ⟨(k2.trans h0), zvi (by omega) hL, (k2.trans h0), zvi (by omega) hL, (k2.trans h0), zvi (by omega) hL, (k2.trans h0), zvi (by omega) hL, ?_⟩
  refine zC.imp h2 (fun o2 S2 h3 => ?_)
  obtain ⟨b, rfl, b', rfl, e130, eout, hS2, hP⟩ := h3
  refine b_L_law_660 hS2 (b_M_thrown hS2 (b_L_law_663 hS2 ?_))
  rw [e130]
  exact ⟨fun _ => ⟨fun _ => hk S2 _ _ hS2 hP, fun h9 => ⟨zinl rfl, fun _ => hk S2 _ _ hS2 hP, fun h8 => absurd (lg_eq0.mpr (eout ((Classical.not_not.mp h9).trans nI_0.symm))) h8⟩⟩, fun h9 => absurd rfl h9⟩
theorem c_least {i L : Nat} {u5 u6 : Option Value} {S : ZSt} {Q : ZOut → ZSt → Prop} {P : ZSt → Prop} (hS : zSh S) (h0 : zc S 0 = 105) (hn : zn S 0 = L) (hi : i + 7 ≤ L) (hL : L ≤ 3584)
    (hp : zC m_L_least [.ref 75, .int (zI S 0 (i + 1)), .int (zI S 0 (i + 2)), .int (zI S 0 (i + 3)), .int (zI S 0 (i + 4)), .ref 161] S (zTwoR S m_M_least [.int (zI S 0 (i + 1)), .int (zI S 0 (i + 2)), .int (zI S 0 (i + 3)), .int (zI S 0 (i + 4))] (zAnsP P))) (hk : zNext i P Q) : zW 102 m_L_law 679 [some (.ref 0), some (.ref 75), some (.ref 130), some (.ref 161), some (.int (nI i)), u5, u6] [] S Q := by
  refine b_L_law_679 hS ?_
  rw [hn, zci (i := i) (k := 1) (by omega), zci (i := i) (k := 2) (by omega), zci (i := i) (k := 3) (by omega), zci (i := i) (k := 4) (by omega)]
  refine ⟨h0, zvi (by omega) hL, h0, zvi (by omega) hL, h0, zvi (by omega) hL, h0, zvi (by omega) hL, ?_⟩
  refine zC.imp hp (fun o S1 h1 => ?_)
  obtain ⟨kk, rfl, ⟨k1, k2, k3, k4⟩, h2⟩ := h1
  refine b_L_law_702 k4 ?_
  rw [k3, hn, zci (i := i) (k := 1) (by omega), zci (i := i) (k := 2) (by omega), zci (i := i) (k := 3) (by omega), zci (i := i) (k := 4) (by omega), k1]
  refine ⟨(k2.trans h0), zvi (by omega) hL, (k2.trans h0), zvi (by omega) hL, (k2.trans h0), zvi (by omega) hL, (k2.trans h0), zvi (by omega) hL, ?_⟩
  refine zC.imp h2 (fun o2 S2 h3 => ?_)
  obtain ⟨b, rfl, b', rfl, e130, eout, hS2, hP⟩ := h3
  refine b_L_law_725 hS2 (b_M_thrown hS2 (b_L_law_728 hS2 ?_))
  rw [e130]
  exact ⟨fun _ => ⟨fun _ => hk S2 _ _ hS2 hP, fun h9 => ⟨zinl rfl, fun _ => hk S2 _ _ hS2 hP, fun h8 => absurd (lg_eq0.mpr (eout ((Classical.not_not.mp h9).trans nI_0.symm))) h8⟩⟩, fun h9 => absurd rfl h9⟩
theorem c_find {i L : Nat} {u5 u6 : Option Value} {S : ZSt} {Q : ZOut → ZSt → Prop} {P : ZSt → Prop} (hS : zSh S) (h0 : zc S 0 = 105) (hn : zn S 0 = L) (hi : i + 7 ≤ L) (hL : L ≤ 3584)
    (hp : zC m_L_find [.ref 75, .int (zI S 0 (i + 1)), .int (zI S 0 (i + 2)), .int (zI S 0 (i + 3)), .int (zI S 0 (i + 4)), .int (zI S 0 (i + 5)), .int (zI S 0 (i + 6)), .ref 161] S (zTwoR S m_M_find [.int (zI S 0 (i + 1)), .int (zI S 0 (i + 2)), .int (zI S 0 (i + 3)), .int (zI S 0 (i + 4)), .int (zI S 0 (i + 5)), .int (zI S 0 (i + 6))] (zAnsP P))) (hk : zNext i P Q) : zW 102 m_L_law 744 [some (.ref 0), some (.ref 75), some (.ref 130), some (.ref 161), some (.int (nI i)), u5, u6] [] S Q := by
  refine b_L_law_744 hS ?_
  rw [hn, zci (i := i) (k := 1) (by omega), zci (i := i) (k := 2) (by omega), zci (i := i) (k := 3) (by omega), zci (i := i) (k := 4) (by omega), zci (i := i) (k := 5) (by omega), zci (i := i) (k := 6) (by omega)]
  refine ⟨h0, zvi (by omega) hL, h0, zvi (by omega) hL, h0, zvi (by omega) hL, h0, zvi (by omega) hL, h0, zvi (by omega) hL, h0, zvi (by omega) hL, ?_⟩
  refine zC.imp hp (fun o S1 h1 => ?_)
  obtain ⟨kk, rfl, ⟨k1, k2, k3, k4⟩, h2⟩ := h1
  refine b_L_law_777 k4 ?_
  rw [k3, hn, zci (i := i) (k := 1) (by omega), zci (i := i) (k := 2) (by omega), zci (i := i) (k := 3) (by omega), zci (i := i) (k := 4) (by omega), zci (i := i) (k := 5) (by omega), zci (i := i) (k := 6) (by omega), k1]
  refine ⟨(k2.trans h0), zvi (by omega) hL, (k2.trans h0), zvi (by omega) hL, (k2.trans h0), zvi (by omega) hL, (k2.trans h0), zvi (by omega) hL, (k2.trans h0), zvi (by omega) hL, (k2.trans h0), zvi (by omega) hL, ?_⟩
  refine zC.imp h2 (fun o2 S2 h3 => ?_)
  obtain ⟨b, rfl, b', rfl, e130, eout, hS2, hP⟩ := h3
  refine b_L_law_810 hS2 (b_M_thrown hS2 (b_L_law_813 hS2 ?_))
  rw [e130]
  exact ⟨fun _ => ⟨fun _ => hk S2 _ _ hS2 hP, fun h9 => ⟨zinl rfl, fun _ => hk S2 _ _ hS2 hP, fun h8 => absurd (lg_eq0.mpr (eout ((Classical.not_not.mp h9).trans nI_0.symm))) h8⟩⟩, fun h9 => absurd rfl h9⟩
theorem c_keep {i L : Nat} {u5 u6 : Option Value} {S : ZSt} {Q : ZOut → ZSt → Prop} {P : ZSt → Prop} (hS : zSh S) (h0 : zc S 0 = 105) (hn : zn S 0 = L) (hi : i + 7 ≤ L) (hL : L ≤ 3584)
    (hp : zC m_L_keep [.ref 75, .int (zI S 0 (i + 1)), .int (zI S 0 (i + 2)), .int (zI S 0 (i + 3)), .int (zI S 0 (i + 4)), .int (zI S 0 (i + 5)), .ref 161] S (zTwoR S m_M_keep [.int (zI S 0 (i + 1)), .int (zI S 0 (i + 2)), .int (zI S 0 (i + 3)), .int (zI S 0 (i + 4)), .int (zI S 0 (i + 5))] (zAnsP P))) (hk : zNext i P Q) : zW 102 m_L_law 829 [some (.ref 0), some (.ref 75), some (.ref 130), some (.ref 161), some (.int (nI i)), u5, u6] [] S Q := by
  refine b_L_law_829 hS ?_
  rw [hn, zci (i := i) (k := 1) (by omega), zci (i := i) (k := 2) (by omega), zci (i := i) (k := 3) (by omega), zci (i := i) (k := 4) (by omega), zci (i := i) (k := 5) (by omega)]
  refine ⟨h0, zvi (by omega) hL, h0, zvi (by omega) hL, h0, zvi (by omega) hL, h0, zvi (by omega) hL, h0, zvi (by omega) hL, ?_⟩
  refine zC.imp hp (fun o S1 h1 => ?_)
  obtain ⟨kk, rfl, ⟨k1, k2, k3, k4⟩, h2⟩ := h1
  refine b_L_law_857 k4 ?_
  rw [k3, hn, zci (i := i) (k := 1) (by omega), zci (i := i) (k := 2) (by omega), zci (i := i) (k := 3) (by omega), zci (i := i) (k := 4) (by omega), zci (i := i) (k := 5) (by omega), k1]
  refine ⟨(k2.trans h0), zvi (by omega) hL, (k2.trans h0), zvi (by omega) hL, (k2.trans h0), zvi (by omega) hL, (k2.trans h0), zvi (by omega) hL, (k2.trans h0), zvi (by omega) hL, ?_⟩
  refine zC.imp h2 (fun o2 S2 h3 => ?_)
  obtain ⟨b, rfl, b', rfl, e130, eout, hS2, hP⟩ := h3
  refine b_L_law_885 hS2 (b_M_thrown hS2 (b_L_law_888 hS2 ?_))
  rw [e130]
  exact ⟨fun _ => ⟨fun _ => hk S2 _ _ hS2 hP, fun h9 => ⟨zinl rfl, fun _ => hk S2 _ _ hS2 hP, fun h8 => absurd (lg_eq0.mpr (eout ((Classical.not_not.mp h9).trans nI_0.symm))) h8⟩⟩, fun h9 => absurd rfl h9⟩
theorem c_can {i L : Nat} {u5 u6 : Option Value} {S : ZSt} {Q : ZOut → ZSt → Prop} {P : ZSt → Prop} (hS : zSh S) (h0 : zc S 0 = 105) (hn : zn S 0 = L) (hi : i + 7 ≤ L) (hL : L ≤ 3584)
    (hp : zC m_L_can [.ref 75, .int (zI S 0 (i + 1)), .int (zI S 0 (i + 2)), .int (zI S 0 (i + 3)), .ref 161] S (zTwoR S m_M_can [.int (zI S 0 (i + 1)), .int (zI S 0 (i + 2)), .int (zI S 0 (i + 3))] (zAnsPB P))) (hk : zNext i P Q) : zW 102 m_L_law 904 [some (.ref 0), some (.ref 75), some (.ref 130), some (.ref 161), some (.int (nI i)), u5, u6] [] S Q := by
  refine b_L_law_904 hS ?_
  rw [hn, zci (i := i) (k := 1) (by omega), zci (i := i) (k := 2) (by omega), zci (i := i) (k := 3) (by omega)]
  refine ⟨h0, zvi (by omega) hL, h0, zvi (by omega) hL, h0, zvi (by omega) hL, ?_⟩
  refine zC.imp hp (fun o S1 h1 => ?_)
  obtain ⟨kk, rfl, ⟨k1, k2, k3, k4⟩, h2⟩ := h1
  refine b_L_law_922 k4 ?_
  rw [k3, hn, zci (i := i) (k := 1) (by omega), zci (i := i) (k := 2) (by omega), zci (i := i) (k := 3) (by omega), k1]
  refine ⟨(k2.trans h0), zvi (by omega) hL, (k2.trans h0), zvi (by omega) hL, (k2.trans h0), zvi (by omega) hL, ?_⟩
  refine zC.imp h2 (fun o2 S2 h3 => ?_)
  obtain ⟨b, rfl, b', rfl, hb01, e130, eout, hS2, hP⟩ := h3
  refine b_L_law_940 hS2 (b_M_thrown hS2 (b_L_law_943 hS2 ?_))
  rw [e130]
  refine ⟨fun _ => ⟨fun _ => hk S2 _ _ hS2 hP, fun h9 => ⟨zinl rfl, fun h8 => ⟨fun _ => hk S2 _ _ hS2 hP, fun h7 => absurd (lg_eq0.mpr ?_) h7⟩, fun h8 => ⟨fun _ => hk S2 _ _ hS2 hP, fun h7 => absurd (lg_eq0.mpr ?_) h7⟩⟩⟩, fun h9 => absurd rfl h9⟩
  · rw [eout ((Classical.not_not.mp h9).trans nI_0.symm), h8]
    rfl
  · rcases hb01 with hb | hb
    · exact absurd (hb.trans nI_0) h8
    · rw [eout ((Classical.not_not.mp h9).trans nI_0.symm), hb]
      exact zlN1.symm
theorem c_why {i L : Nat} {u5 u6 : Option Value} {S : ZSt} {Q : ZOut → ZSt → Prop} {P : ZSt → Prop} (hS : zSh S) (h0 : zc S 0 = 105) (hn : zn S 0 = L) (hi : i + 7 ≤ L) (hL : L ≤ 3584)
    (hp : zC m_L_why [.ref 75, .int (zI S 0 (i + 1)), .int (zI S 0 (i + 2)), .ref 161] S (zTwoR S m_M_why [.int (zI S 0 (i + 1)), .int (zI S 0 (i + 2))] (zAnsP P))) (hk : zNext i P Q) : zW 102 m_L_law 962 [some (.ref 0), some (.ref 75), some (.ref 130), some (.ref 161), some (.int (nI i)), u5, u6] [] S Q := by
  refine b_L_law_962 hS ?_
  rw [hn, zci (i := i) (k := 1) (by omega), zci (i := i) (k := 2) (by omega)]
  refine ⟨h0, zvi (by omega) hL, h0, zvi (by omega) hL, ?_⟩
  refine zC.imp hp (fun o S1 h1 => ?_)
  obtain ⟨kk, rfl, ⟨k1, k2, k3, k4⟩, h2⟩ := h1
  refine b_L_law_975 k4 ?_
  rw [k3, hn, zci (i := i) (k := 1) (by omega), zci (i := i) (k := 2) (by omega), k1]
  refine ⟨(k2.trans h0), zvi (by omega) hL, (k2.trans h0), zvi (by omega) hL, ?_⟩
  refine zC.imp h2 (fun o2 S2 h3 => ?_)
  obtain ⟨b, rfl, b', rfl, e130, eout, hS2, hP⟩ := h3
  refine b_L_law_988 hS2 (b_M_thrown hS2 (b_L_law_991 hS2 ?_))
  rw [e130]
  exact ⟨fun _ => ⟨fun _ => hk S2 _ _ hS2 hP, fun h9 => ⟨zinl rfl, fun _ => hk S2 _ _ hS2 hP, fun h8 => absurd (lg_eq0.mpr (eout ((Classical.not_not.mp h9).trans nI_0.symm))) h8⟩⟩, fun h9 => absurd rfl h9⟩
theorem c_cheat {i L : Nat} {u5 u6 : Option Value} {S : ZSt} {Q : ZOut → ZSt → Prop} {P : ZSt → Prop} (hS : zSh S) (h0 : zc S 0 = 105) (hn : zn S 0 = L) (hi : i + 7 ≤ L) (hL : L ≤ 3584)
    (hp : zC m_L_cheat [.ref 75, .int (zI S 0 (i + 1)), .int (zI S 0 (i + 2)), .int (zI S 0 (i + 3)), .int (zI S 0 (i + 4)), .ref 161] S (zTwoR S m_M_cheat [.int (zI S 0 (i + 1)), .int (zI S 0 (i + 2)), .int (zI S 0 (i + 3)), .int (zI S 0 (i + 4))] (zAnsPB P))) (hk : zNext i P Q) : zW 102 m_L_law 1007 [some (.ref 0), some (.ref 75), some (.ref 130), some (.ref 161), some (.int (nI i)), u5, u6] [] S Q := by
  refine b_L_law_1007 hS ?_
  rw [hn, zci (i := i) (k := 1) (by omega), zci (i := i) (k := 2) (by omega), zci (i := i) (k := 3) (by omega), zci (i := i) (k := 4) (by omega)]
  refine ⟨h0, zvi (by omega) hL, h0, zvi (by omega) hL, h0, zvi (by omega) hL, h0, zvi (by omega) hL, ?_⟩
  refine zC.imp hp (fun o S1 h1 => ?_)
  obtain ⟨kk, rfl, ⟨k1, k2, k3, k4⟩, h2⟩ := h1
  refine b_L_law_1030 k4 ?_
  rw [k3, hn, zci (i := i) (k := 1) (by omega), zci (i := i) (k := 2) (by omega), zci (i := i) (k := 3) (by omega), zci (i := i) (k := 4) (by omega), k1]
  refine ⟨(k2.trans h0), zvi (by omega) hL, (k2.trans h0), zvi (by omega) hL, (k2.trans h0), zvi (by omega) hL, (k2.trans h0), zvi (by omega) hL, ?_⟩
  refine zC.imp h2 (fun o2 S2 h3 => ?_)
  obtain ⟨b, rfl, b', rfl, hb01, e130, eout, hS2, hP⟩ := h3
  refine b_L_law_1053 hS2 (b_M_thrown hS2 (b_L_law_1056 hS2 ?_))
  rw [e130]
  refine ⟨fun _ => ⟨fun _ => hk S2 _ _ hS2 hP, fun h9 => ⟨zinl rfl, fun h8 => ⟨fun _ => hk S2 _ _ hS2 hP, fun h7 => absurd (lg_eq0.mpr ?_) h7⟩, fun h8 => ⟨fun _ => hk S2 _ _ hS2 hP, fun h7 => absurd (lg_eq0.mpr ?_) h7⟩⟩⟩, fun h9 => absurd rfl h9⟩
  · rw [eout ((Classical.not_not.mp h9).trans nI_0.symm), h8]
    rfl
  · rcases hb01 with hb | hb
    · exact absurd (hb.trans nI_0) h8
    · rw [eout ((Classical.not_not.mp h9).trans nI_0.symm), hb]
      exact zlN1.symm
theorem c_soon {i L : Nat} {u5 u6 : Option Value} {S : ZSt} {Q : ZOut → ZSt → Prop} {P : ZSt → Prop} (hS : zSh S) (h0 : zc S 0 = 105) (hn : zn S 0 = L) (hi : i + 7 ≤ L) (hL : L ≤ 3584)
    (hp : zC m_L_soon [.ref 75, .int (zI S 0 (i + 1)), .int (zI S 0 (i + 2)), .int (zI S 0 (i + 3)), .ref 161] S (zTwoR S m_M_soon [.int (zI S 0 (i + 1)), .int (zI S 0 (i + 2)), .int (zI S 0 (i + 3))] (zAnsP P))) (hk : zNext i P Q) : zW 102 m_L_law 1075 [some (.ref 0), some (.ref 75), some (.ref 130), some (.ref 161), some (.int (nI i)), u5, u6] [] S Q := by
  refine b_L_law_1075 hS ?_
  rw [hn, zci (i := i) (k := 1) (by omega), zci (i := i) (k := 2) (by omega), zci (i := i) (k := 3) (by omega)]
  refine ⟨h0, zvi (by omega) hL, h0, zvi (by omega) hL, h0, zvi (by omega) hL, ?_⟩
  refine zC.imp hp (fun o S1 h1 => ?_)
  obtain ⟨kk, rfl, ⟨k1, k2, k3, k4⟩, h2⟩ := h1
  refine b_L_law_1093 k4 ?_
  rw [k3, hn, zci (i := i) (k := 1) (by omega), zci (i := i) (k := 2) (by omega), zci (i := i) (k := 3) (by omega), k1]
  refine ⟨(k2.trans h0), zvi (by omega) hL, (k2.trans h0), zvi (by omega) hL, (k2.trans h0), zvi (by omega) hL, ?_⟩
  refine zC.imp h2 (fun o2 S2 h3 => ?_)
  obtain ⟨b, rfl, b', rfl, e130, eout, hS2, hP⟩ := h3
  refine b_L_law_1111 hS2 (b_M_thrown hS2 (b_L_law_1114 hS2 ?_))
  rw [e130]
  exact ⟨fun _ => ⟨fun _ => hk S2 _ _ hS2 hP, fun h9 => ⟨zinl rfl, fun _ => hk S2 _ _ hS2 hP, fun h8 => absurd (lg_eq0.mpr (eout ((Classical.not_not.mp h9).trans nI_0.symm))) h8⟩⟩, fun h9 => absurd rfl h9⟩
theorem c_hidden {i L : Nat} {u5 u6 : Option Value} {S : ZSt} {Q : ZOut → ZSt → Prop} {P : ZSt → Prop} (hS : zSh S) (h0 : zc S 0 = 105) (hn : zn S 0 = L) (hi : i + 7 ≤ L) (hL : L ≤ 3584)
    (hp : zC m_L_hidden [.ref 75, .int (zI S 0 (i + 1)), .int (zI S 0 (i + 2)), .int (zI S 0 (i + 3)), .ref 161] S (zTwoR S m_M_hidden [.int (zI S 0 (i + 1)), .int (zI S 0 (i + 2)), .int (zI S 0 (i + 3))] (zAnsP P))) (hk : zNext i P Q) : zW 102 m_L_law 1130 [some (.ref 0), some (.ref 75), some (.ref 130), some (.ref 161), some (.int (nI i)), u5, u6] [] S Q := by
  refine b_L_law_1130 hS ?_
  rw [hn, zci (i := i) (k := 1) (by omega), zci (i := i) (k := 2) (by omega), zci (i := i) (k := 3) (by omega)]
  refine ⟨h0, zvi (by omega) hL, h0, zvi (by omega) hL, h0, zvi (by omega) hL, ?_⟩
  refine zC.imp hp (fun o S1 h1 => ?_)
  obtain ⟨kk, rfl, ⟨k1, k2, k3, k4⟩, h2⟩ := h1
  refine b_L_law_1148 k4 ?_
  rw [k3, hn, zci (i := i) (k := 1) (by omega), zci (i := i) (k := 2) (by omega), zci (i := i) (k := 3) (by omega), k1]
  refine ⟨(k2.trans h0), zvi (by omega) hL, (k2.trans h0), zvi (by omega) hL, (k2.trans h0), zvi (by omega) hL, ?_⟩
  refine zC.imp h2 (fun o2 S2 h3 => ?_)
  obtain ⟨b, rfl, b', rfl, e130, eout, hS2, hP⟩ := h3
  refine b_L_law_1166 hS2 (b_M_thrown hS2 (b_L_law_1169 hS2 ?_))
  rw [e130]
  exact ⟨fun _ => ⟨fun _ => hk S2 _ _ hS2 hP, fun h9 => ⟨zinl rfl, fun _ => hk S2 _ _ hS2 hP, fun h8 => absurd (lg_eq0.mpr (eout ((Classical.not_not.mp h9).trans nI_0.symm))) h8⟩⟩, fun h9 => absurd rfl h9⟩
theorem c_places {i L : Nat} {u5 u6 : Option Value} {S : ZSt} {Q : ZOut → ZSt → Prop} {P : ZSt → Prop} (hS : zSh S) (h0 : zc S 0 = 105) (hn : zn S 0 = L) (hi : i + 7 ≤ L) (hL : L ≤ 3584)
    (hp : zC m_L_places [.ref 75, .int (zI S 0 (i + 1)), .ref 161] S (zTwoR S m_M_places [.int (zI S 0 (i + 1))] (zAnsP P))) (hk : zNext i P Q) : zW 102 m_L_law 1185 [some (.ref 0), some (.ref 75), some (.ref 130), some (.ref 161), some (.int (nI i)), u5, u6] [] S Q := by
  refine b_L_law_1185 hS ?_
  rw [hn, zci (i := i) (k := 1) (by omega)]
  refine ⟨h0, zvi (by omega) hL, ?_⟩
  refine zC.imp hp (fun o S1 h1 => ?_)
  obtain ⟨kk, rfl, ⟨k1, k2, k3, k4⟩, h2⟩ := h1
  refine b_L_law_1193 k4 ?_
  rw [k3, hn, zci (i := i) (k := 1) (by omega), k1]
  refine ⟨(k2.trans h0), zvi (by omega) hL, ?_⟩
  refine zC.imp h2 (fun o2 S2 h3 => ?_)
  obtain ⟨b, rfl, b', rfl, e130, eout, hS2, hP⟩ := h3
  refine b_L_law_1201 hS2 (b_M_thrown hS2 (b_L_law_1204 hS2 ?_))
  rw [e130]
  exact ⟨fun _ => ⟨fun _ => hk S2 _ _ hS2 hP, fun h9 => ⟨zinl rfl, fun _ => hk S2 _ _ hS2 hP, fun h8 => absurd (lg_eq0.mpr (eout ((Classical.not_not.mp h9).trans nI_0.symm))) h8⟩⟩, fun h9 => absurd rfl h9⟩
theorem c_pebbles {i L : Nat} {u5 u6 : Option Value} {S : ZSt} {Q : ZOut → ZSt → Prop} {P : ZSt → Prop} (hS : zSh S) (h0 : zc S 0 = 105) (hn : zn S 0 = L) (hi : i + 7 ≤ L) (hL : L ≤ 3584)
    (hp : zC m_L_pebbles [.ref 75, .int (zI S 0 (i + 1)), .ref 161] S (zTwoR S m_M_pebbles [.int (zI S 0 (i + 1))] (zAnsP P))) (hk : zNext i P Q) : zW 102 m_L_law 1220 [some (.ref 0), some (.ref 75), some (.ref 130), some (.ref 161), some (.int (nI i)), u5, u6] [] S Q := by
  refine b_L_law_1220 hS ?_
  rw [hn, zci (i := i) (k := 1) (by omega)]
  refine ⟨h0, zvi (by omega) hL, ?_⟩
  refine zC.imp hp (fun o S1 h1 => ?_)
  obtain ⟨kk, rfl, ⟨k1, k2, k3, k4⟩, h2⟩ := h1
  refine b_L_law_1228 k4 ?_
  rw [k3, hn, zci (i := i) (k := 1) (by omega), k1]
  refine ⟨(k2.trans h0), zvi (by omega) hL, ?_⟩
  refine zC.imp h2 (fun o2 S2 h3 => ?_)
  obtain ⟨b, rfl, b', rfl, e130, eout, hS2, hP⟩ := h3
  refine b_L_law_1236 hS2 (b_M_thrown hS2 (b_L_law_1239 hS2 ?_))
  rw [e130]
  exact ⟨fun _ => ⟨fun _ => hk S2 _ _ hS2 hP, fun h9 => ⟨zinl rfl, fun _ => hk S2 _ _ hS2 hP, fun h8 => absurd (lg_eq0.mpr (eout ((Classical.not_not.mp h9).trans nI_0.symm))) h8⟩⟩, fun h9 => absurd rfl h9⟩
theorem c_fewest {i L : Nat} {u5 u6 : Option Value} {S : ZSt} {Q : ZOut → ZSt → Prop} {P : ZSt → Prop} (hS : zSh S) (h0 : zc S 0 = 105) (hn : zn S 0 = L) (hi : i + 7 ≤ L) (hL : L ≤ 3584)
    (hp : zC m_L_fewest [.ref 75, .int (zI S 0 (i + 1)), .ref 161] S (zTwoR S m_M_fewest [.int (zI S 0 (i + 1))] (zAnsP P))) (hk : zNext i P Q) : zW 102 m_L_law 1255 [some (.ref 0), some (.ref 75), some (.ref 130), some (.ref 161), some (.int (nI i)), u5, u6] [] S Q := by
  refine b_L_law_1255 hS ?_
  rw [hn, zci (i := i) (k := 1) (by omega)]
  refine ⟨h0, zvi (by omega) hL, ?_⟩
  refine zC.imp hp (fun o S1 h1 => ?_)
  obtain ⟨kk, rfl, ⟨k1, k2, k3, k4⟩, h2⟩ := h1
  refine b_L_law_1263 k4 ?_
  rw [k3, hn, zci (i := i) (k := 1) (by omega), k1]
  refine ⟨(k2.trans h0), zvi (by omega) hL, ?_⟩
  refine zC.imp h2 (fun o2 S2 h3 => ?_)
  obtain ⟨b, rfl, b', rfl, e130, eout, hS2, hP⟩ := h3
  refine b_L_law_1271 hS2 (b_M_thrown hS2 (b_L_law_1274 hS2 ?_))
  rw [e130]
  exact ⟨fun _ => ⟨fun _ => hk S2 _ _ hS2 hP, fun h9 => ⟨zinl rfl, fun _ => hk S2 _ _ hS2 hP, fun h8 => absurd (lg_eq0.mpr (eout ((Classical.not_not.mp h9).trans nI_0.symm))) h8⟩⟩, fun h9 => absurd rfl h9⟩
theorem c_tell {i L : Nat} {u5 u6 : Option Value} {S : ZSt} {Q : ZOut → ZSt → Prop} {P : ZSt → Prop} (hS : zSh S) (h0 : zc S 0 = 105) (hn : zn S 0 = L) (hi : i + 7 ≤ L) (hL : L ≤ 3584)
    (hp : zC m_L_tell [.ref 75, .int (zI S 0 (i + 1)), .int (zI S 0 (i + 2)), .ref 161] S (zTwoR S m_M_tell [.int (zI S 0 (i + 1)), .int (zI S 0 (i + 2))] (zAnsP P))) (hk : zNext i P Q) : zW 102 m_L_law 1290 [some (.ref 0), some (.ref 75), some (.ref 130), some (.ref 161), some (.int (nI i)), u5, u6] [] S Q := by
  refine b_L_law_1290 hS ?_
  rw [hn, zci (i := i) (k := 1) (by omega), zci (i := i) (k := 2) (by omega)]
  refine ⟨h0, zvi (by omega) hL, h0, zvi (by omega) hL, ?_⟩
  refine zC.imp hp (fun o S1 h1 => ?_)
  obtain ⟨kk, rfl, ⟨k1, k2, k3, k4⟩, h2⟩ := h1
  refine b_L_law_1303 k4 ?_
  rw [k3, hn, zci (i := i) (k := 1) (by omega), zci (i := i) (k := 2) (by omega), k1]
  refine ⟨(k2.trans h0), zvi (by omega) hL, (k2.trans h0), zvi (by omega) hL, ?_⟩
  refine zC.imp h2 (fun o2 S2 h3 => ?_)
  obtain ⟨b, rfl, b', rfl, e130, eout, hS2, hP⟩ := h3
  refine b_L_law_1316 hS2 (b_M_thrown hS2 (b_L_law_1319 hS2 ?_))
  rw [e130]
  exact ⟨fun _ => ⟨fun _ => hk S2 _ _ hS2 hP, fun h9 => ⟨zinl rfl, fun _ => hk S2 _ _ hS2 hP, fun h8 => absurd (lg_eq0.mpr (eout ((Classical.not_not.mp h9).trans nI_0.symm))) h8⟩⟩, fun h9 => absurd rfl h9⟩
theorem c_word {i L : Nat} {u5 u6 : Option Value} {S : ZSt} {Q : ZOut → ZSt → Prop} {P : ZSt → Prop} (hS : zSh S) (h0 : zc S 0 = 105) (hn : zn S 0 = L) (hi : i + 7 ≤ L) (hL : L ≤ 3584)
    (hp : zC m_L_word [.ref 75, .int (zI S 0 (i + 1)), .int (zI S 0 (i + 2)), .ref 161] S (zTwoR S m_M_wordx [.int (zI S 0 (i + 1)), .int (zI S 0 (i + 2))] (zAnsP P))) (hk : zNext i P Q) : zW 102 m_L_law 1335 [some (.ref 0), some (.ref 75), some (.ref 130), some (.ref 161), some (.int (nI i)), u5, u6] [] S Q := by
  refine b_L_law_1335 hS ?_
  rw [hn, zci (i := i) (k := 1) (by omega), zci (i := i) (k := 2) (by omega)]
  refine ⟨h0, zvi (by omega) hL, h0, zvi (by omega) hL, ?_⟩
  refine zC.imp hp (fun o S1 h1 => ?_)
  obtain ⟨kk, rfl, ⟨k1, k2, k3, k4⟩, h2⟩ := h1
  refine b_L_law_1348 k4 ?_
  rw [k3, hn, zci (i := i) (k := 1) (by omega), zci (i := i) (k := 2) (by omega), k1]
  refine ⟨(k2.trans h0), zvi (by omega) hL, (k2.trans h0), zvi (by omega) hL, ?_⟩
  refine zC.imp h2 (fun o2 S2 h3 => ?_)
  obtain ⟨b, rfl, b', rfl, e130, eout, hS2, hP⟩ := h3
  refine b_L_law_1361 hS2 (b_M_thrown hS2 (b_L_law_1364 hS2 ?_))
  rw [e130]
  exact ⟨fun _ => ⟨fun _ => hk S2 _ _ hS2 hP, fun h9 => ⟨zinl rfl, fun _ => hk S2 _ _ hS2 hP, fun h8 => absurd (lg_eq0.mpr (eout ((Classical.not_not.mp h9).trans nI_0.symm))) h8⟩⟩, fun h9 => absurd rfl h9⟩
theorem c_stranger {i L : Nat} {u5 u6 : Option Value} {S : ZSt} {Q : ZOut → ZSt → Prop} {P : ZSt → Prop} (hS : zSh S) (h0 : zc S 0 = 105) (hn : zn S 0 = L) (hi : i + 7 ≤ L) (hL : L ≤ 3584)
    (hp : zC m_L_stranger [.ref 75, .int (zI S 0 (i + 1)), .int (zI S 0 (i + 2)), .int (zI S 0 (i + 3)), .int (zI S 0 (i + 4)), .ref 161] S (zTwoR S m_M_stranger [.int (zI S 0 (i + 1)), .int (zI S 0 (i + 2)), .int (zI S 0 (i + 3)), .int (zI S 0 (i + 4))] (zAnsP P))) (hk : zNext i P Q) : zW 102 m_L_law 1380 [some (.ref 0), some (.ref 75), some (.ref 130), some (.ref 161), some (.int (nI i)), u5, u6] [] S Q := by
  refine b_L_law_1380 hS ?_
  rw [hn, zci (i := i) (k := 1) (by omega), zci (i := i) (k := 2) (by omega), zci (i := i) (k := 3) (by omega), zci (i := i) (k := 4) (by omega)]
  refine ⟨h0, zvi (by omega) hL, h0, zvi (by omega) hL, h0, zvi (by omega) hL, h0, zvi (by omega) hL, ?_⟩
  refine zC.imp hp (fun o S1 h1 => ?_)
  obtain ⟨kk, rfl, ⟨k1, k2, k3, k4⟩, h2⟩ := h1
  refine b_L_law_1403 k4 ?_
  rw [k3, hn, zci (i := i) (k := 1) (by omega), zci (i := i) (k := 2) (by omega), zci (i := i) (k := 3) (by omega), zci (i := i) (k := 4) (by omega), k1]
  refine ⟨(k2.trans h0), zvi (by omega) hL, (k2.trans h0), zvi (by omega) hL, (k2.trans h0), zvi (by omega) hL, (k2.trans h0), zvi (by omega) hL, ?_⟩
  refine zC.imp h2 (fun o2 S2 h3 => ?_)
  obtain ⟨b, rfl, b', rfl, e130, eout, hS2, hP⟩ := h3
  refine b_L_law_1426 hS2 (b_M_thrown hS2 (b_L_law_1429 hS2 ?_))
  rw [e130]
  exact ⟨fun _ => ⟨fun _ => hk S2 _ _ hS2 hP, fun h9 => ⟨zinl rfl, fun _ => hk S2 _ _ hS2 hP, fun h8 => absurd (lg_eq0.mpr (eout ((Classical.not_not.mp h9).trans nI_0.symm))) h8⟩⟩, fun h9 => absurd rfl h9⟩
theorem c_field {i L : Nat} {u5 u6 : Option Value} {S : ZSt} {Q : ZOut → ZSt → Prop} {P : ZSt → Prop} (hS : zSh S) (h0 : zc S 0 = 105) (hn : zn S 0 = L) (hi : i + 7 ≤ L) (hL : L ≤ 3584)
    (hp : zC m_L_field [.ref 75, .int (zI S 0 (i + 1)), .int (zI S 0 (i + 2)), .int (zI S 0 (i + 3)), .ref 161] S (zTwoR S m_M_field [.int (zI S 0 (i + 1)), .int (zI S 0 (i + 2)), .int (zI S 0 (i + 3))] (zAnsP P))) (hk : zNext i P Q) : zW 102 m_L_law 1445 [some (.ref 0), some (.ref 75), some (.ref 130), some (.ref 161), some (.int (nI i)), u5, u6] [] S Q := by
  refine b_L_law_1445 hS ?_
  rw [hn, zci (i := i) (k := 1) (by omega), zci (i := i) (k := 2) (by omega), zci (i := i) (k := 3) (by omega)]
  refine ⟨h0, zvi (by omega) hL, h0, zvi (by omega) hL, h0, zvi (by omega) hL, ?_⟩
  refine zC.imp hp (fun o S1 h1 => ?_)
  obtain ⟨kk, rfl, ⟨k1, k2, k3, k4⟩, h2⟩ := h1
  refine b_L_law_1463 k4 ?_
  rw [k3, hn, zci (i := i) (k := 1) (by omega), zci (i := i) (k := 2) (by omega), zci (i := i) (k := 3) (by omega), k1]
  refine ⟨(k2.trans h0), zvi (by omega) hL, (k2.trans h0), zvi (by omega) hL, (k2.trans h0), zvi (by omega) hL, ?_⟩
  refine zC.imp h2 (fun o2 S2 h3 => ?_)
  obtain ⟨b, rfl, b', rfl, e130, eout, hS2, hP⟩ := h3
  refine b_L_law_1481 hS2 (b_M_thrown hS2 (b_L_law_1484 hS2 ?_))
  rw [e130]
  exact ⟨fun _ => ⟨fun _ => hk S2 _ _ hS2 hP, fun h9 => ⟨zinl rfl, fun _ => hk S2 _ _ hS2 hP, fun h8 => absurd (lg_eq0.mpr (eout ((Classical.not_not.mp h9).trans nI_0.symm))) h8⟩⟩, fun h9 => absurd rfl h9⟩
theorem c_share {i L : Nat} {u5 u6 : Option Value} {S : ZSt} {Q : ZOut → ZSt → Prop} {P : ZSt → Prop} (hS : zSh S) (h0 : zc S 0 = 105) (hn : zn S 0 = L) (hi : i + 7 ≤ L) (hL : L ≤ 3584)
    (hp : zC m_L_share [.ref 75, .int (zI S 0 (i + 1)), .int (zI S 0 (i + 2)), .int (zI S 0 (i + 3)), .ref 161] S (zTwoR S m_M_share [.int (zI S 0 (i + 1)), .int (zI S 0 (i + 2)), .int (zI S 0 (i + 3))] (zAnsP P))) (hk : zNext i P Q) : zW 102 m_L_law 1500 [some (.ref 0), some (.ref 75), some (.ref 130), some (.ref 161), some (.int (nI i)), u5, u6] [] S Q := by
  refine b_L_law_1500 hS ?_
  rw [hn, zci (i := i) (k := 1) (by omega), zci (i := i) (k := 2) (by omega), zci (i := i) (k := 3) (by omega)]
  refine ⟨h0, zvi (by omega) hL, h0, zvi (by omega) hL, h0, zvi (by omega) hL, ?_⟩
  refine zC.imp hp (fun o S1 h1 => ?_)
  obtain ⟨kk, rfl, ⟨k1, k2, k3, k4⟩, h2⟩ := h1
  refine b_L_law_1518 k4 ?_
  rw [k3, hn, zci (i := i) (k := 1) (by omega), zci (i := i) (k := 2) (by omega), zci (i := i) (k := 3) (by omega), k1]
  refine ⟨(k2.trans h0), zvi (by omega) hL, (k2.trans h0), zvi (by omega) hL, (k2.trans h0), zvi (by omega) hL, ?_⟩
  refine zC.imp h2 (fun o2 S2 h3 => ?_)
  obtain ⟨b, rfl, b', rfl, e130, eout, hS2, hP⟩ := h3
  refine b_L_law_1536 hS2 (b_M_thrown hS2 (b_L_law_1539 hS2 ?_))
  rw [e130]
  exact ⟨fun _ => ⟨fun _ => hk S2 _ _ hS2 hP, fun h9 => ⟨zinl rfl, fun _ => hk S2 _ _ hS2 hP, fun h8 => absurd (lg_eq0.mpr (eout ((Classical.not_not.mp h9).trans nI_0.symm))) h8⟩⟩, fun h9 => absurd rfl h9⟩
theorem c_even {i L : Nat} {u5 u6 : Option Value} {S : ZSt} {Q : ZOut → ZSt → Prop} {P : ZSt → Prop} (hS : zSh S) (h0 : zc S 0 = 105) (hn : zn S 0 = L) (hi : i + 7 ≤ L) (hL : L ≤ 3584)
    (hp : zC m_L_even [.ref 75, .int (zI S 0 (i + 1)), .int (zI S 0 (i + 2)), .ref 161] S (zTwoR S m_M_even [.int (zI S 0 (i + 1)), .int (zI S 0 (i + 2))] (zAnsP P))) (hk : zNext i P Q) : zW 102 m_L_law 1555 [some (.ref 0), some (.ref 75), some (.ref 130), some (.ref 161), some (.int (nI i)), u5, u6] [] S Q := by
  refine b_L_law_1555 hS ?_
  rw [hn, zci (i := i) (k := 1) (by omega), zci (i := i) (k := 2) (by omega)]
  refine ⟨h0, zvi (by omega) hL, h0, zvi (by omega) hL, ?_⟩
  refine zC.imp hp (fun o S1 h1 => ?_)
  obtain ⟨kk, rfl, ⟨k1, k2, k3, k4⟩, h2⟩ := h1
  refine b_L_law_1568 k4 ?_
  rw [k3, hn, zci (i := i) (k := 1) (by omega), zci (i := i) (k := 2) (by omega), k1]
  refine ⟨(k2.trans h0), zvi (by omega) hL, (k2.trans h0), zvi (by omega) hL, ?_⟩
  refine zC.imp h2 (fun o2 S2 h3 => ?_)
  obtain ⟨b, rfl, b', rfl, e130, eout, hS2, hP⟩ := h3
  refine b_L_law_1581 hS2 (b_M_thrown hS2 (b_L_law_1584 hS2 ?_))
  rw [e130]
  exact ⟨fun _ => ⟨fun _ => hk S2 _ _ hS2 hP, fun h9 => ⟨zinl rfl, fun _ => hk S2 _ _ hS2 hP, fun h8 => absurd (lg_eq0.mpr (eout ((Classical.not_not.mp h9).trans nI_0.symm))) h8⟩⟩, fun h9 => absurd rfl h9⟩
theorem c_envy {i L : Nat} {u5 u6 : Option Value} {S : ZSt} {Q : ZOut → ZSt → Prop} {P : ZSt → Prop} (hS : zSh S) (h0 : zc S 0 = 105) (hn : zn S 0 = L) (hi : i + 7 ≤ L) (hL : L ≤ 3584)
    (hp : zC m_L_envy [.ref 75, .int (zI S 0 (i + 1)), .int (zI S 0 (i + 2)), .int (zI S 0 (i + 3)), .ref 161] S (zTwoR S m_M_envy [.int (zI S 0 (i + 1)), .int (zI S 0 (i + 2)), .int (zI S 0 (i + 3))] (zAnsP P))) (hk : zNext i P Q) : zW 102 m_L_law 1600 [some (.ref 0), some (.ref 75), some (.ref 130), some (.ref 161), some (.int (nI i)), u5, u6] [] S Q := by
  refine b_L_law_1600 hS ?_
  rw [hn, zci (i := i) (k := 1) (by omega), zci (i := i) (k := 2) (by omega), zci (i := i) (k := 3) (by omega)]
  refine ⟨h0, zvi (by omega) hL, h0, zvi (by omega) hL, h0, zvi (by omega) hL, ?_⟩
  refine zC.imp hp (fun o S1 h1 => ?_)
  obtain ⟨kk, rfl, ⟨k1, k2, k3, k4⟩, h2⟩ := h1
  refine b_L_law_1618 k4 ?_
  rw [k3, hn, zci (i := i) (k := 1) (by omega), zci (i := i) (k := 2) (by omega), zci (i := i) (k := 3) (by omega), k1]
  refine ⟨(k2.trans h0), zvi (by omega) hL, (k2.trans h0), zvi (by omega) hL, (k2.trans h0), zvi (by omega) hL, ?_⟩
  refine zC.imp h2 (fun o2 S2 h3 => ?_)
  obtain ⟨b, rfl, b', rfl, e130, eout, hS2, hP⟩ := h3
  refine b_L_law_1636 hS2 (b_M_thrown hS2 (b_L_law_1639 hS2 ?_))
  rw [e130]
  exact ⟨fun _ => ⟨fun _ => hk S2 _ _ hS2 hP, fun h9 => ⟨zinl rfl, fun _ => hk S2 _ _ hS2 hP, fun h8 => absurd (lg_eq0.mpr (eout ((Classical.not_not.mp h9).trans nI_0.symm))) h8⟩⟩, fun h9 => absurd rfl h9⟩
theorem c_mind {i L : Nat} {u5 u6 : Option Value} {S : ZSt} {Q : ZOut → ZSt → Prop} {P : ZSt → Prop} (hS : zSh S) (h0 : zc S 0 = 105) (hn : zn S 0 = L) (hi : i + 7 ≤ L) (hL : L ≤ 3584)
    (hp : zC m_L_mind [.ref 75, .long ((zShlL ((zI S 0 (i + 1)).toInt64) (nI 32)) ||| (((zI S 0 (i + 2)).toInt64) &&& (lN 4294967295))), .int (zI S 0 (i + 3)), .int (zI S 0 (i + 4)), .ref 161] S (zTwoR S m_M_mind [.long ((zShlL ((zI S 0 (i + 1)).toInt64) (nI 32)) ||| (((zI S 0 (i + 2)).toInt64) &&& (lN 4294967295))), .int (zI S 0 (i + 3)), .int (zI S 0 (i + 4))] (zAnsP P))) (hk : zNext i P Q) : zW 102 m_L_law 1655 [some (.ref 0), some (.ref 75), some (.ref 130), some (.ref 161), some (.int (nI i)), u5, u6] [] S Q := by
  refine b_L_law_1655 hS ?_
  rw [hn, zci (i := i) (k := 1) (by omega), zci (i := i) (k := 2) (by omega), zci (i := i) (k := 3) (by omega), zci (i := i) (k := 4) (by omega)]
  refine ⟨h0, zvi (by omega) hL, h0, zvi (by omega) hL, h0, zvi (by omega) hL, h0, zvi (by omega) hL, ?_⟩
  refine zC.imp hp (fun o S1 h1 => ?_)
  obtain ⟨kk, rfl, ⟨k1, k2, k3, k4⟩, h2⟩ := h1
  refine b_L_law_1685 k4 ?_
  rw [k3, hn, zci (i := i) (k := 1) (by omega), zci (i := i) (k := 2) (by omega), zci (i := i) (k := 3) (by omega), zci (i := i) (k := 4) (by omega), k1]
  refine ⟨(k2.trans h0), zvi (by omega) hL, (k2.trans h0), zvi (by omega) hL, (k2.trans h0), zvi (by omega) hL, (k2.trans h0), zvi (by omega) hL, ?_⟩
  refine zC.imp h2 (fun o2 S2 h3 => ?_)
  obtain ⟨b, rfl, b', rfl, e130, eout, hS2, hP⟩ := h3
  refine b_L_law_1715 hS2 (b_M_thrown hS2 (b_L_law_1718 hS2 ?_))
  rw [e130]
  exact ⟨fun _ => ⟨fun _ => hk S2 _ _ hS2 hP, fun h9 => ⟨zinl rfl, fun _ => hk S2 _ _ hS2 hP, fun h8 => absurd (lg_eq0.mpr (eout ((Classical.not_not.mp h9).trans nI_0.symm))) h8⟩⟩, fun h9 => absurd rfl h9⟩
theorem c_agree {i L : Nat} {u5 u6 : Option Value} {S : ZSt} {Q : ZOut → ZSt → Prop} {P : ZSt → Prop} (hS : zSh S) (h0 : zc S 0 = 105) (hn : zn S 0 = L) (hi : i + 7 ≤ L) (hL : L ≤ 3584)
    (hp : zC m_L_agree [.ref 75, .int (zI S 0 (i + 1)), .int (zI S 0 (i + 2)), .ref 161] S (zTwoR S m_M_agree [.int (zI S 0 (i + 1)), .int (zI S 0 (i + 2))] (zAnsP P))) (hk : zNext i P Q) : zW 102 m_L_law 1800 [some (.ref 0), some (.ref 75), some (.ref 130), some (.ref 161), some (.int (nI i)), u5, u6] [] S Q := by
  refine b_L_law_1800 hS ?_
  rw [hn, zci (i := i) (k := 1) (by omega), zci (i := i) (k := 2) (by omega)]
  refine ⟨h0, zvi (by omega) hL, h0, zvi (by omega) hL, ?_⟩
  refine zC.imp hp (fun o S1 h1 => ?_)
  obtain ⟨kk, rfl, ⟨k1, k2, k3, k4⟩, h2⟩ := h1
  refine b_L_law_1813 k4 ?_
  rw [k3, hn, zci (i := i) (k := 1) (by omega), zci (i := i) (k := 2) (by omega), k1]
  refine ⟨(k2.trans h0), zvi (by omega) hL, (k2.trans h0), zvi (by omega) hL, ?_⟩
  refine zC.imp h2 (fun o2 S2 h3 => ?_)
  obtain ⟨b, rfl, b', rfl, e130, eout, hS2, hP⟩ := h3
  refine b_L_law_1826 hS2 (b_M_thrown hS2 (b_L_law_1829 hS2 ?_))
  rw [e130]
  exact ⟨fun _ => ⟨fun _ => hk S2 _ _ hS2 hP, fun h9 => ⟨zinl rfl, fun _ => hk S2 _ _ hS2 hP, fun h8 => absurd (lg_eq0.mpr (eout ((Classical.not_not.mp h9).trans nI_0.symm))) h8⟩⟩, fun h9 => absurd rfl h9⟩
theorem c_kept {i L : Nat} {u5 u6 : Option Value} {S : ZSt} {Q : ZOut → ZSt → Prop} {P : ZSt → Prop} (hS : zSh S) (h0 : zc S 0 = 105) (hn : zn S 0 = L) (hi : i + 7 ≤ L) (hL : L ≤ 3584)
    (hp : zC m_L_kept [.ref 75, .int (zI S 0 (i + 1)), .int (zI S 0 (i + 2)), .int (zI S 0 (i + 3)), .int (zI S 0 (i + 4)), .int (zI S 0 (i + 5)), .ref 161] S (zTwoR S m_M_kept [.int (zI S 0 (i + 1)), .int (zI S 0 (i + 2)), .int (zI S 0 (i + 3)), .int (zI S 0 (i + 4)), .int (zI S 0 (i + 5))] (zAnsP P))) (hk : zNext i P Q) : zW 102 m_L_law 1845 [some (.ref 0), some (.ref 75), some (.ref 130), some (.ref 161), some (.int (nI i)), u5, u6] [] S Q := by
  refine b_L_law_1845 hS ?_
  rw [hn, zci (i := i) (k := 1) (by omega), zci (i := i) (k := 2) (by omega), zci (i := i) (k := 3) (by omega), zci (i := i) (k := 4) (by omega), zci (i := i) (k := 5) (by omega)]
  refine ⟨h0, zvi (by omega) hL, h0, zvi (by omega) hL, h0, zvi (by omega) hL, h0, zvi (by omega) hL, h0, zvi (by omega) hL, ?_⟩
  refine zC.imp hp (fun o S1 h1 => ?_)
  obtain ⟨kk, rfl, ⟨k1, k2, k3, k4⟩, h2⟩ := h1
  refine b_L_law_1873 k4 ?_
  rw [k3, hn, zci (i := i) (k := 1) (by omega), zci (i := i) (k := 2) (by omega), zci (i := i) (k := 3) (by omega), zci (i := i) (k := 4) (by omega), zci (i := i) (k := 5) (by omega), k1]
  refine ⟨(k2.trans h0), zvi (by omega) hL, (k2.trans h0), zvi (by omega) hL, (k2.trans h0), zvi (by omega) hL, (k2.trans h0), zvi (by omega) hL, (k2.trans h0), zvi (by omega) hL, ?_⟩
  refine zC.imp h2 (fun o2 S2 h3 => ?_)
  obtain ⟨b, rfl, b', rfl, e130, eout, hS2, hP⟩ := h3
  refine b_L_law_1901 hS2 (b_M_thrown hS2 (b_L_law_1904 hS2 ?_))
  rw [e130]
  exact ⟨fun _ => ⟨fun _ => hk S2 _ _ hS2 hP, fun h9 => ⟨zinl rfl, fun _ => hk S2 _ _ hS2 hP, fun h8 => absurd (lg_eq0.mpr (eout ((Classical.not_not.mp h9).trans nI_0.symm))) h8⟩⟩, fun h9 => absurd rfl h9⟩
theorem c_rate {i L : Nat} {u5 u6 : Option Value} {S : ZSt} {Q : ZOut → ZSt → Prop} {P : ZSt → Prop} (hS : zSh S) (h0 : zc S 0 = 105) (hn : zn S 0 = L) (hi : i + 7 ≤ L) (hL : L ≤ 3584)
    (hp : zC m_L_rate [.ref 75, .int (zI S 0 (i + 1)), .int (zI S 0 (i + 2)), .int (zI S 0 (i + 3)), .int (zI S 0 (i + 4)), .ref 161] S (zTwoR S m_M_rate [.int (zI S 0 (i + 1)), .int (zI S 0 (i + 2)), .int (zI S 0 (i + 3)), .int (zI S 0 (i + 4))] (zAnsP P))) (hk : zNext i P Q) : zW 102 m_L_law 1920 [some (.ref 0), some (.ref 75), some (.ref 130), some (.ref 161), some (.int (nI i)), u5, u6] [] S Q := by
  refine b_L_law_1920 hS ?_
  rw [hn, zci (i := i) (k := 1) (by omega), zci (i := i) (k := 2) (by omega), zci (i := i) (k := 3) (by omega), zci (i := i) (k := 4) (by omega)]
  refine ⟨h0, zvi (by omega) hL, h0, zvi (by omega) hL, h0, zvi (by omega) hL, h0, zvi (by omega) hL, ?_⟩
  refine zC.imp hp (fun o S1 h1 => ?_)
  obtain ⟨kk, rfl, ⟨k1, k2, k3, k4⟩, h2⟩ := h1
  refine b_L_law_1943 k4 ?_
  rw [k3, hn, zci (i := i) (k := 1) (by omega), zci (i := i) (k := 2) (by omega), zci (i := i) (k := 3) (by omega), zci (i := i) (k := 4) (by omega), k1]
  refine ⟨(k2.trans h0), zvi (by omega) hL, (k2.trans h0), zvi (by omega) hL, (k2.trans h0), zvi (by omega) hL, (k2.trans h0), zvi (by omega) hL, ?_⟩
  refine zC.imp h2 (fun o2 S2 h3 => ?_)
  obtain ⟨b, rfl, b', rfl, e130, eout, hS2, hP⟩ := h3
  refine b_L_law_1966 hS2 (b_M_thrown hS2 (b_L_law_1969 hS2 ?_))
  rw [e130]
  exact ⟨fun _ => ⟨fun _ => hk S2 _ _ hS2 hP, fun h9 => ⟨zinl rfl, fun _ => hk S2 _ _ hS2 hP, fun h8 => absurd (lg_eq0.mpr (eout ((Classical.not_not.mp h9).trans nI_0.symm))) h8⟩⟩, fun h9 => absurd rfl h9⟩
theorem c_trade {i L : Nat} {u5 u6 : Option Value} {S : ZSt} {Q : ZOut → ZSt → Prop} {P : ZSt → Prop} (hS : zSh S) (h0 : zc S 0 = 105) (hn : zn S 0 = L) (hi : i + 7 ≤ L) (hL : L ≤ 3584)
    (hp : zC m_L_trade [.ref 75, .int (zI S 0 (i + 1)), .int (zI S 0 (i + 2)), .ref 161] S (zTwoR S m_M_trade [.int (zI S 0 (i + 1)), .int (zI S 0 (i + 2))] (zAnsP P))) (hk : zNext i P Q) : zW 102 m_L_law 1985 [some (.ref 0), some (.ref 75), some (.ref 130), some (.ref 161), some (.int (nI i)), u5, u6] [] S Q := by
  refine b_L_law_1985 hS ?_
  rw [hn, zci (i := i) (k := 1) (by omega), zci (i := i) (k := 2) (by omega)]
  refine ⟨h0, zvi (by omega) hL, h0, zvi (by omega) hL, ?_⟩
  refine zC.imp hp (fun o S1 h1 => ?_)
  obtain ⟨kk, rfl, ⟨k1, k2, k3, k4⟩, h2⟩ := h1
  refine b_L_law_1998 k4 ?_
  rw [k3, hn, zci (i := i) (k := 1) (by omega), zci (i := i) (k := 2) (by omega), k1]
  refine ⟨(k2.trans h0), zvi (by omega) hL, (k2.trans h0), zvi (by omega) hL, ?_⟩
  refine zC.imp h2 (fun o2 S2 h3 => ?_)
  obtain ⟨b, rfl, b', rfl, e130, eout, hS2, hP⟩ := h3
  refine b_L_law_2011 hS2 (b_M_thrown hS2 (b_L_law_2014 hS2 ?_))
  rw [e130]
  exact ⟨fun _ => ⟨fun _ => hk S2 _ _ hS2 hP, fun h9 => ⟨zinl rfl, fun _ => hk S2 _ _ hS2 hP, fun h8 => absurd (lg_eq0.mpr (eout ((Classical.not_not.mp h9).trans nI_0.symm))) h8⟩⟩, fun h9 => absurd rfl h9⟩
theorem c_whole {i L : Nat} {u5 u6 : Option Value} {S : ZSt} {Q : ZOut → ZSt → Prop} {P : ZSt → Prop} (hS : zSh S) (h0 : zc S 0 = 105) (hn : zn S 0 = L) (hi : i + 7 ≤ L) (hL : L ≤ 3584)
    (hp : zC m_L_whole [.ref 75, .int (zI S 0 (i + 1)), .int (zI S 0 (i + 2)), .ref 161] S (zTwoR S m_M_whole [.int (zI S 0 (i + 1)), .int (zI S 0 (i + 2))] (zAnsP P))) (hk : zNext i P Q) : zW 102 m_L_law 2030 [some (.ref 0), some (.ref 75), some (.ref 130), some (.ref 161), some (.int (nI i)), u5, u6] [] S Q := by
  refine b_L_law_2030 hS ?_
  rw [hn, zci (i := i) (k := 1) (by omega), zci (i := i) (k := 2) (by omega)]
  refine ⟨h0, zvi (by omega) hL, h0, zvi (by omega) hL, ?_⟩
  refine zC.imp hp (fun o S1 h1 => ?_)
  obtain ⟨kk, rfl, ⟨k1, k2, k3, k4⟩, h2⟩ := h1
  refine b_L_law_2043 k4 ?_
  rw [k3, hn, zci (i := i) (k := 1) (by omega), zci (i := i) (k := 2) (by omega), k1]
  refine ⟨(k2.trans h0), zvi (by omega) hL, (k2.trans h0), zvi (by omega) hL, ?_⟩
  refine zC.imp h2 (fun o2 S2 h3 => ?_)
  obtain ⟨b, rfl, b', rfl, e130, eout, hS2, hP⟩ := h3
  refine b_L_law_2056 hS2 (b_M_thrown hS2 (b_L_law_2059 hS2 ?_))
  rw [e130]
  exact ⟨fun _ => ⟨fun _ => hk S2 _ _ hS2 hP, fun h9 => ⟨zinl rfl, fun _ => hk S2 _ _ hS2 hP, fun h8 => absurd (lg_eq0.mpr (eout ((Classical.not_not.mp h9).trans nI_0.symm))) h8⟩⟩, fun h9 => absurd rfl h9⟩
theorem c_knows {i L : Nat} {u5 u6 : Option Value} {S : ZSt} {Q : ZOut → ZSt → Prop} {P : ZSt → Prop} (hS : zSh S) (h0 : zc S 0 = 105) (hn : zn S 0 = L) (hi : i + 7 ≤ L) (hL : L ≤ 3584)
    (hp : zC m_L_knows [.ref 75, .int (zI S 0 (i + 1)), .int (zI S 0 (i + 2)), .ref 161] S (zTwoR S m_M_knows [.int (zI S 0 (i + 1)), .int (zI S 0 (i + 2))] (zAnsP P))) (hk : zNext i P Q) : zW 102 m_L_law 2075 [some (.ref 0), some (.ref 75), some (.ref 130), some (.ref 161), some (.int (nI i)), u5, u6] [] S Q := by
  refine b_L_law_2075 hS ?_
  rw [hn, zci (i := i) (k := 1) (by omega), zci (i := i) (k := 2) (by omega)]
  refine ⟨h0, zvi (by omega) hL, h0, zvi (by omega) hL, ?_⟩
  refine zC.imp hp (fun o S1 h1 => ?_)
  obtain ⟨kk, rfl, ⟨k1, k2, k3, k4⟩, h2⟩ := h1
  refine b_L_law_2088 k4 ?_
  rw [k3, hn, zci (i := i) (k := 1) (by omega), zci (i := i) (k := 2) (by omega), k1]
  refine ⟨(k2.trans h0), zvi (by omega) hL, (k2.trans h0), zvi (by omega) hL, ?_⟩
  refine zC.imp h2 (fun o2 S2 h3 => ?_)
  obtain ⟨b, rfl, b', rfl, e130, eout, hS2, hP⟩ := h3
  refine b_L_law_2101 hS2 (b_M_thrown hS2 (b_L_law_2104 hS2 ?_))
  rw [e130]
  exact ⟨fun _ => ⟨fun _ => hk S2 _ _ hS2 hP, fun h9 => ⟨zinl rfl, fun _ => hk S2 _ _ hS2 hP, fun h8 => absurd (lg_eq0.mpr (eout ((Classical.not_not.mp h9).trans nI_0.symm))) h8⟩⟩, fun h9 => absurd rfl h9⟩
theorem c_woman {i L : Nat} {u5 u6 : Option Value} {S : ZSt} {Q : ZOut → ZSt → Prop} {P : ZSt → Prop} (hS : zSh S) (h0 : zc S 0 = 105) (hn : zn S 0 = L) (hi : i + 7 ≤ L) (hL : L ≤ 3584)
    (hp : zC m_L_woman [.ref 75, .int (zI S 0 (i + 1)), .int (zI S 0 (i + 2)), .ref 161] S (zTwoR S m_M_woman [.int (zI S 0 (i + 1)), .int (zI S 0 (i + 2))] (zAnsP P))) (hk : zNext i P Q) : zW 102 m_L_law 2120 [some (.ref 0), some (.ref 75), some (.ref 130), some (.ref 161), some (.int (nI i)), u5, u6] [] S Q := by
  refine b_L_law_2120 hS ?_
  rw [hn, zci (i := i) (k := 1) (by omega), zci (i := i) (k := 2) (by omega)]
  refine ⟨h0, zvi (by omega) hL, h0, zvi (by omega) hL, ?_⟩
  refine zC.imp hp (fun o S1 h1 => ?_)
  obtain ⟨kk, rfl, ⟨k1, k2, k3, k4⟩, h2⟩ := h1
  refine b_L_law_2133 k4 ?_
  rw [k3, hn, zci (i := i) (k := 1) (by omega), zci (i := i) (k := 2) (by omega), k1]
  refine ⟨(k2.trans h0), zvi (by omega) hL, (k2.trans h0), zvi (by omega) hL, ?_⟩
  refine zC.imp h2 (fun o2 S2 h3 => ?_)
  obtain ⟨b, rfl, b', rfl, e130, eout, hS2, hP⟩ := h3
  refine b_L_law_2146 hS2 (b_M_thrown hS2 (b_L_law_2149 hS2 ?_))
  rw [e130]
  exact ⟨fun _ => ⟨fun _ => hk S2 _ _ hS2 hP, fun h9 => ⟨zinl rfl, fun _ => hk S2 _ _ hS2 hP, fun h8 => absurd (lg_eq0.mpr (eout ((Classical.not_not.mp h9).trans nI_0.symm))) h8⟩⟩, fun h9 => absurd rfl h9⟩
theorem c_image {i L : Nat} {u5 u6 : Option Value} {S : ZSt} {Q : ZOut → ZSt → Prop} {P : ZSt → Prop} (hS : zSh S) (h0 : zc S 0 = 105) (hn : zn S 0 = L) (hi : i + 7 ≤ L) (hL : L ≤ 3584)
    (hp : zC m_N_image [.ref 75] S (zTwoR S m_M_image [] (zSayP P))) (hk : zNext i P Q) : zW 102 m_L_law 2165 [some (.ref 0), some (.ref 75), some (.ref 130), some (.ref 161), some (.int (nI i)), u5, u6] [] S Q := by
  refine b_L_law_2165 hS ?_
  refine zC.imp hp (fun o S1 h1 => ?_)
  obtain ⟨kk, rfl, ⟨k1, k2, k3, k4⟩, h2⟩ := h1
  refine b_L_law_2167 k4 ?_
  refine zC.imp h2 (fun o2 S2 h3 => ?_)
  obtain ⟨b, rfl, rfl, hS2, hP⟩ := h3
  exact b_L_law_2169 hS2 ⟨fun _ => hk S2 _ _ hS2 hP, fun h9 => absurd rfl h9⟩
theorem c_restore {i L : Nat} {u5 u6 : Option Value} {S : ZSt} {Q : ZOut → ZSt → Prop} {P : ZSt → Prop} (hS : zSh S) (h0 : zc S 0 = 105) (hn : zn S 0 = L) (hi : i + 7 ≤ L) (hL : L ≤ 3584)
    (hp : zC m_N_restore [.ref 75] S (zTwoR S m_M_restore [] (zSayP P))) (hk : zNext i P Q) : zW 102 m_L_law 2172 [some (.ref 0), some (.ref 75), some (.ref 130), some (.ref 161), some (.int (nI i)), u5, u6] [] S Q := by
  refine b_L_law_2172 hS ?_
  refine zC.imp hp (fun o S1 h1 => ?_)
  obtain ⟨kk, rfl, ⟨k1, k2, k3, k4⟩, h2⟩ := h1
  refine b_L_law_2174 k4 ?_
  refine zC.imp h2 (fun o2 S2 h3 => ?_)
  obtain ⟨b, rfl, rfl, hS2, hP⟩ := h3
  exact b_L_law_2176 hS2 ⟨fun _ => hk S2 _ _ hS2 hP, fun h9 => absurd rfl h9⟩
theorem c_status {i L : Nat} {u5 u6 : Option Value} {S : ZSt} {Q : ZOut → ZSt → Prop} {P : ZSt → Prop} (hS : zSh S) (h0 : zc S 0 = 105) (hn : zn S 0 = L) (hi : i + 7 ≤ L) (hL : L ≤ 3584)
    (hp : zC m_N_status [.ref 75, .int (zI S 0 (i + 1))] S (zTwoR S m_M_status [.int (zI S 0 (i + 1))] (zSayP P))) (hk : zNext i P Q) : zW 102 m_L_law 2179 [some (.ref 0), some (.ref 75), some (.ref 130), some (.ref 161), some (.int (nI i)), u5, u6] [] S Q := by
  refine b_L_law_2179 hS ?_
  rw [hn, zci (i := i) (k := 1) (by omega)]
  refine ⟨h0, zvi (by omega) hL, ?_⟩
  refine zC.imp hp (fun o S1 h1 => ?_)
  obtain ⟨kk, rfl, ⟨k1, k2, k3, k4⟩, h2⟩ := h1
  refine b_L_law_2186 k4 ?_
  rw [k3, hn, zci (i := i) (k := 1) (by omega), k1]
  refine ⟨(k2.trans h0), zvi (by omega) hL, ?_⟩
  refine zC.imp h2 (fun o2 S2 h3 => ?_)
  obtain ⟨b, rfl, rfl, hS2, hP⟩ := h3
  exact b_L_law_2193 hS2 ⟨fun _ => hk S2 _ _ hS2 hP, fun h9 => absurd rfl h9⟩
theorem c_count {i L : Nat} {u5 u6 : Option Value} {S : ZSt} {Q : ZOut → ZSt → Prop} {P : ZSt → Prop} (hS : zSh S) (h0 : zc S 0 = 105) (hn : zn S 0 = L) (hi : i + 7 ≤ L) (hL : L ≤ 3584)
    (hp : zC m_N_count [.ref 75, .int (zI S 0 (i + 1))] S (zTwoR S m_M_count [.int (zI S 0 (i + 1))] (zSayP P))) (hk : zNext i P Q) : zW 102 m_L_law 2196 [some (.ref 0), some (.ref 75), some (.ref 130), some (.ref 161), some (.int (nI i)), u5, u6] [] S Q := by
  refine b_L_law_2196 hS ?_
  rw [hn, zci (i := i) (k := 1) (by omega)]
  refine ⟨h0, zvi (by omega) hL, ?_⟩
  refine zC.imp hp (fun o S1 h1 => ?_)
  obtain ⟨kk, rfl, ⟨k1, k2, k3, k4⟩, h2⟩ := h1
  refine b_L_law_2203 k4 ?_
  rw [k3, hn, zci (i := i) (k := 1) (by omega), k1]
  refine ⟨(k2.trans h0), zvi (by omega) hL, ?_⟩
  refine zC.imp h2 (fun o2 S2 h3 => ?_)
  obtain ⟨b, rfl, rfl, hS2, hP⟩ := h3
  exact b_L_law_2210 hS2 ⟨fun _ => hk S2 _ _ hS2 hP, fun h9 => absurd rfl h9⟩
theorem c_mark {i L : Nat} {u5 u6 : Option Value} {S : ZSt} {Q : ZOut → ZSt → Prop} {P : ZSt → Prop} (hS : zSh S) (h0 : zc S 0 = 105) (hn : zn S 0 = L) (hi : i + 7 ≤ L) (hL : L ≤ 3584)
    (hp : ∀ v : Int32, zC m_L_mark [.ref 75, .int (zI S 0 (i + 1)), .int (zI S 0 (i + 2)), .int v, .ref 161] S (zTwoR S m_M_mark [.int (zI S 0 (i + 1)), .int (zI S 0 (i + 2)), .int v] (zAnsPB P))) (hk : zNext i P Q) : zW 102 m_L_law 1734 [some (.ref 0), some (.ref 75), some (.ref 130), some (.ref 161), some (.int (nI i)), u5, u6] [] S Q := by
  have fin : ∀ (o2 : ZOut) (S2 : ZSt) (kk : Int32) (w5 w6 : Option Value), (∃ b : Value, o2 = .inl (some b) ∧ zAnsPB P kk b S2) → ∃ s0, o2 = .inl (some (.int s0)) ∧ zW 102 m_L_law 1778 [some (.ref 0), some (.ref 75), some (.ref 130), some (.ref 161), some (.int (nI i)), some (.int kk), w6] [.int s0] S2 Q := fun o2 S2 kk w5 w6 h3 => by
    obtain ⟨b, rfl, b', rfl, hb01, e130, eout, hS2, hP⟩ := h3
    refine ⟨b', rfl, b_L_law_1778 hS2 (b_M_thrown hS2 (b_L_law_1781 hS2 ?_))⟩
    rw [e130]
    refine ⟨fun _ => ⟨fun _ => hk S2 _ _ hS2 hP, fun h9 => ⟨zinl rfl, fun h8 => ⟨fun _ => hk S2 _ _ hS2 hP, fun h7 => absurd (lg_eq0.mpr ?_) h7⟩, fun h8 => ⟨fun _ => hk S2 _ _ hS2 hP, fun h7 => absurd (lg_eq0.mpr ?_) h7⟩⟩⟩, fun h9 => absurd rfl h9⟩
    · rw [eout ((Classical.not_not.mp h9).trans nI_0.symm), h8]
      rfl
    · rcases hb01 with hb | hb
      · exact absurd (hb.trans nI_0) h8
      · rw [eout ((Classical.not_not.mp h9).trans nI_0.symm), hb]
        exact zlN1.symm
  refine b_L_law_1734 hS ?_
  rw [hn, zci (i := i) (k := 1) (by omega), zci (i := i) (k := 2) (by omega), zci (i := i) (k := 3) (by omega)]
  refine ⟨h0, zvi (by omega) hL, h0, zvi (by omega) hL, h0, zvi (by omega) hL, fun hz => ?_, fun hz => ?_⟩
  · refine zC.imp (hp (nI 0)) (fun o S1 h1 => ?_)
    obtain ⟨kk, rfl, ⟨k1, k2, k3, k4⟩, h2⟩ := h1
    refine b_L_law_1756 k4 ?_
    rw [k3, hn, zci (i := i) (k := 1) (by omega), zci (i := i) (k := 2) (by omega), zci (i := i) (k := 3) (by omega), k1]
    refine ⟨k2.trans h0, zvi (by omega) hL, k2.trans h0, zvi (by omega) hL, k2.trans h0, zvi (by omega) hL, fun _ => zC.imp h2 (fun o2 S2 h3 => ?_), fun h9 => absurd hz h9⟩
    obtain ⟨s0, rfl, hw⟩ := fin o2 S2 kk u5 u6 h3
    exact hw
  · refine zC.imp (hp (nI 1)) (fun o S1 h1 => ?_)
    obtain ⟨kk, rfl, ⟨k1, k2, k3, k4⟩, h2⟩ := h1
    refine b_L_law_1756 k4 ?_
    rw [k3, hn, zci (i := i) (k := 1) (by omega), zci (i := i) (k := 2) (by omega), zci (i := i) (k := 3) (by omega), k1]
    refine ⟨k2.trans h0, zvi (by omega) hL, k2.trans h0, zvi (by omega) hL, k2.trans h0, zvi (by omega) hL, fun h9 => absurd h9 hz, fun _ => zC.imp h2 (fun o2 S2 h3 => ?_)⟩
    obtain ⟨s0, rfl, hw⟩ := fin o2 S2 kk u5 u6 h3
    exact hw
