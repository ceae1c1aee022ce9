/-! The law's first rows end where the loop begins -/
noncomputable def zhH : ZHs := match zgo with
  | some (_, _, H) => H
  | none => []
theorem lsB_t {ls : ZLo} {st : List Value} (h : lsB ls st = true) : ls = [some (.ref 0), some (.ref 75), some (.ref 130), some (.ref 161), some (.int (nI 0)), none, none] ∧ st = [] := by
  unfold lsB at h
  split at h
  · rename_i a b c d v
    obtain ⟨h1, h2⟩ := zand h
    obtain ⟨h3, h4⟩ := zand h1
    obtain ⟨h5, h6⟩ := zand h2
    obtain ⟨h5, h7⟩ := zand h5
    rw [Nat.eq_of_beq_eq_true h3, Nat.eq_of_beq_eq_true h4, Nat.eq_of_beq_eq_true h5, Nat.eq_of_beq_eq_true h7, of_decide_eq_true h6]
    exact ⟨rfl, rfl⟩
  · cases h
theorem zgo_e : zgo = some ([some (.ref 0), some (.ref 75), some (.ref 130), some (.ref 161), some (.int (nI 0)), none, none], [], zhH) := by
  have h := zgB_t
  unfold zgB at h
  unfold zhH
  cases e : zgo with
  | none =>
    rw [e] at h
    cases h
  | some x =>
    obtain ⟨ls, st, H⟩ := x
    rw [e] at h
    obtain ⟨h1, h2⟩ := lsB_t h
    rw [h1, h2]
noncomputable def zf1 : Bool := ((List.range 162).all (fun k => Nat.beq (hc zhH k) (zTc k) && (Nat.beq k 0 || Nat.beq (hn zhH k) (zTn k)))) && Nat.beq (hx zhH) 162
noncomputable def zf2 : Bool := (List.range 176).all (fun k => (List.range 60).all (fun j => match zTr k j with
  | none => true
  | some q => decide (hR zhH k j = some q)))
def zf3 : Bool := Nat.beq zTrL.length 11 && (List.range 11).all (fun x => (List.range 16).all (fun y => Nat.ble (((zTrL.getD x []).getD y []).length) 60))
def zopB (op : ZHo) : Bool := match op with
  | .inl (t, _, _, _) => !Nat.beq t 5
  | .inr (.inl (a, _, _)) => Nat.ble 75 a
  | .inr (.inr (a, _, q)) => (Nat.blt q 162 && (!Nat.beq q 125 || Nat.beq a 75)) && ((!Nat.beq a 90 && !Nat.beq a 91) && !Nat.beq a 104)
noncomputable def zf4 : Bool := zhH.all zopB && (Nat.ble (hu zhH) 87 && Nat.ble (hz zhH) 17930)
def f132 (j : Nat) : Int32 := if j = 0 then nI 2 else if j = 2 then nI 24 else if j = 3 then nI 3 else if 215 ≤ j then - nI 1 else nI 0
noncomputable def zf5 : Bool := ((List.range 225).all (fun j => decide (hI zhH 132 j = f132 j)) && (List.range 6).all (fun j => decide (hI zhH 93 j = f132 j))) && ([(94, 12), (95, 24), (99, 24), (100, 36), (101, 36), (102, 36), (105, 4), (131, 4)].all (fun x => (List.range x.2).all (fun j => decide (hI zhH x.1 j = nI 0))) && (List.range 10).all (fun j => decide (hI zhH 103 j = - nI 1)))
noncomputable def zf6 : Bool := [(92, 3), (76, 1), (130, 5), (75, 6), (75, 7), (75, 10), (130, 4), (130, 14), (130, 15), (130, 20)].all (fun x => decide (hI zhH x.1 x.2 = nI 0)) && ([(76, 8), (130, 11), (130, 34)].all (fun x => decide (hI zhH x.1 x.2 = - nI 1)) && (decide (hR zhH 125 1 = some 127) && decide (hR zhH 125 2 = some 128)))
set_option maxRecDepth 100000 in
theorem zf1_t : zf1 = true := by decide +kernel
set_option maxRecDepth 100000 in
theorem zf2_t : zf2 = true := by decide +kernel
set_option maxRecDepth 100000 in
theorem zf3_t : zf3 = true := by decide +kernel
set_option maxRecDepth 100000 in
theorem zf4_t : zf4 = true := by decide +kernel
set_option maxRecDepth 100000 in
theorem zf5_t : zf5 = true := by decide +kernel
set_option maxRecDepth 100000 in
theorem zf6_t : zf6 = true := by decide +kernel
theorem getD_sm {q : Nat} : ∀ (l : List (Option Nat)) (k : Nat), l.getD k none = some q → k < l.length
  | [], k, h => by cases h
  | x :: l, 0, h => Nat.succ_pos _
  | x :: l, k + 1, h => Nat.succ_lt_succ (getD_sm l k h)
theorem zTr_b {a j q : Nat} (h : zTr a j = some q) : a < 176 ∧ j < 60 := by
  obtain ⟨h1, h2⟩ := zand zf3_t
  have e := Nat.eq_of_beq_eq_true h1
  have hj := getD_sm _ _ h
  have lt : a / 16 < 11 := Classical.byContradiction (fun y => by
    have e0 : zTrL.getD (a / 16) [] = [] := by
      rw [List.getD_eq_getElem?_getD, List.getElem?_eq_none (by omega)]
      rfl
    rw [e0] at hj
    exact absurd hj (Nat.not_lt_zero j))
  have := List.all_eq_true.mp (List.all_eq_true.mp h2 (a / 16) (List.mem_range.mpr lt)) (a % 16) (List.mem_range.mpr (Nat.mod_lt _ (by omega)))
  have hl := Nat.le_of_ble_eq_true this
  omega
theorem zcls_15 {k : Nat} (h : zcls0 k = 15) : k < 75 := by
  unfold zcls0 at h
  split at h
  · omega
  · split at h
    · omega
    · split at h
      · assumption
      · omega
theorem zcls_5 {k : Nat} : zcls0 k ≠ 5 := by
  unfold zcls0
  split
  · omega
  · split
    · omega
    · split
      · split <;> omega
      · omega
theorem hc_5 : ∀ (H : ZHs) (o : Nat), H.all zopB = true → hc H o ≠ 5
  | [], o, _ => zcls_5
  | .inl (t, n, sl, src) :: H, o, h => by
    have h' : (zopB (.inl (t, n, sl, src)) && H.all zopB) = true := h
    obtain ⟨h1, h2⟩ := zand h'
    show (if o = hx H then t else hc H o) ≠ 5
    split
    · intro y
      rw [y] at h1
      exact absurd (show false = true from h1) (by decide)
    · exact hc_5 H o h2
  | .inr x :: H, o, h => by
    have h' : (zopB (.inr x) && H.all zopB) = true := h
    exact hc_5 H o (zand h').2
theorem hI_low : ∀ (H : ZHs) (c j : Nat), H.all zopB = true → c < 75 → hI H c j = hI [] c j
  | [], c, j, _, _ => rfl
  | .inl (t, n, sl, src) :: H, c, j, h, hc => by
    have h' : (zopB (.inl (t, n, sl, src)) && H.all zopB) = true := h
    have := hx_le H
    refine Eq.trans (if_neg (by omega)) (hI_low H c j (zand h').2 hc)
  | .inr (.inl (a, k, v)) :: H, c, j, h, hc => by
    have h' : (zopB (.inr (.inl (a, k, v))) && H.all zopB) = true := h
    obtain ⟨h1, h2⟩ := zand h'
    have h75 : 75 ≤ a := Nat.le_of_ble_eq_true h1
    exact Eq.trans (if_neg (fun y => by omega)) (hI_low H c j h2 hc)
  | .inr (.inr (a, k, q)) :: H, c, j, h, hc => by
    have h' : (zopB (.inr (.inr (a, k, q))) && H.all zopB) = true := h
    exact hI_low H c j (zand h').2 hc
theorem hR_all : ∀ (H : ZHs) (a k q : Nat), H.all zopB = true → hR H a k = some q → (q < 162 ∧ (q = 125 → a = 75)) ∧ (a ≠ 90 ∧ a ≠ 91 ∧ a ≠ 104)
  | [], a, k, q, _, h => by
    have h' : (if zcls0 a = 15 ∧ k = 0 then some (a + 1) else none) = some q := h
    split at h'
    · rename_i c
      cases h'
      have := zcls_15 c.1
      omega
    · cases h'
  | .inl (t, n, sl, src) :: H, a, k, q, hb, h => by
    have hb' : (zopB (.inl (t, n, sl, src)) && H.all zopB) = true := hb
    have h' : (if a = hx H then none else hR H a k) = some q := h
    split at h'
    · cases h'
    · exact hR_all H a k q (zand hb').2 h'
  | .inr (.inl (a', k', v)) :: H, a, k, q, hb, h => by
    have hb' : (zopB (.inr (.inl (a', k', v))) && H.all zopB) = true := hb
    exact hR_all H a k q (zand hb').2 h
  | .inr (.inr (a', k', q')) :: H, a, k, q, hb, h => by
    have hb' : (zopB (.inr (.inr (a', k', q'))) && H.all zopB) = true := hb
    obtain ⟨h1, h2⟩ := zand hb'
    have h' : (if a = a' ∧ k = k' then some q' else hR H a k) = some q := h
    split at h'
    · rename_i c
      cases h'
      obtain ⟨g1, g2⟩ := zand h1
      obtain ⟨g3, g4⟩ := zand g1
      obtain ⟨g5, g6⟩ := zand g2
      obtain ⟨g5, g7⟩ := zand g5
      have q1 : q' < 162 := Nat.le_of_ble_eq_true g3
      refine ⟨⟨q1, fun y => ?_⟩, fun y => ?_, fun y => ?_, fun y => ?_⟩
      · rcases zor g4 with z | z
        · rw [y] at z
          exact absurd z (by decide)
        · rw [c.1]
          exact Nat.eq_of_beq_eq_true z
      · rw [c.1] at y
        rw [y] at g5
        exact absurd g5 (by decide)
      · rw [c.1] at y
        rw [y] at g7
        exact absurd g7 (by decide)
      · rw [c.1] at y
        rw [y] at g6
        exact absurd g6 (by decide)
    · exact hR_all H a k q h2 h'
theorem z_inv0 {L : Nat} {xs : Nat → Int32} : zInv L 0 (zab L xs zhH) := by
  obtain ⟨a1, a2⟩ := zand zf1_t
  have ex : zx (zab L xs zhH) = 162 := (ab_x zhH).trans (Nat.eq_of_beq_eq_true a2)
  obtain ⟨b1, b2⟩ := zand zf4_t
  obtain ⟨b3, b4⟩ := zand b2
  obtain ⟨c1, c2⟩ := zand zf5_t
  obtain ⟨c3, c4⟩ := zand c1
  obtain ⟨c5, c6⟩ := zand c2
  obtain ⟨d1, d2⟩ := zand zf6_t
  obtain ⟨d3, d4⟩ := zand d2
  obtain ⟨d5, d6⟩ := zand d4
  have I : ∀ c j, c ≠ 0 → zI (zab L xs zhH) c j = hI zhH c j := fun c j h => ab_I zhH c j h
  have R : ∀ c j, zR (zab L xs zhH) c j = hR zhH c j := fun c j => ab_R zhH c j
  have z0 : ∀ x, x ∈ [(92, 3), (76, 1), (130, 5), (75, 6), (75, 7), (75, 10), (130, 4), (130, 14), (130, 15), (130, 20)] → x.1 ≠ 0 → zI (zab L xs zhH) x.1 x.2 = nI 0 := fun x hx h0 => (I _ _ h0).trans (of_decide_eq_true (List.all_eq_true.mp d1 x hx))
  have zm : ∀ x, x ∈ [(76, 8), (130, 11), (130, 34)] → x.1 ≠ 0 → zI (zab L xs zhH) x.1 x.2 = - nI 1 := fun x hx h0 => (I _ _ h0).trans (of_decide_eq_true (List.all_eq_true.mp d3 x hx))
  have zr : ∀ x, x ∈ [(94, 12), (95, 24), (99, 24), (100, 36), (101, 36), (102, 36), (105, 4), (131, 4)] → x.1 ≠ 0 → ∀ j, j < x.2 → zI (zab L xs zhH) x.1 j = nI 0 := fun x hx h0 j hj => (I _ _ h0).trans (of_decide_eq_true (List.all_eq_true.mp (List.all_eq_true.mp c5 x hx) j (List.mem_range.mpr hj)))
  have z132 : ∀ j, j < 225 → zI (zab L xs zhH) 132 j = f132 j := fun j hj => (I _ _ (by omega)).trans (of_decide_eq_true (List.all_eq_true.mp c3 j (List.mem_range.mpr hj)))
  have z93 : ∀ j, j < 6 → zI (zab L xs zhH) 93 j = f132 j := fun j hj => (I _ _ (by omega)).trans (of_decide_eq_true (List.all_eq_true.mp c4 j (List.mem_range.mpr hj)))
  have z103 : ∀ j, j < 10 → zI (zab L xs zhH) 103 j = - nI 1 := fun j hj => (I _ _ (by omega)).trans (of_decide_eq_true (List.all_eq_true.mp c6 j (List.mem_range.mpr hj)))
  have f0 : ∀ j, 4 ≤ j → j < 215 → f132 j = nI 0 := fun j h1 h2 => by
    unfold f132
    rw [if_neg (by omega), if_neg (by omega), if_neg (by omega), if_neg (by omega)]
  have g0 : ∀ hi, jRg (nI 0) 0 hi := fun hi => ⟨0, by omega, by omega, rfl⟩
  have noR : ∀ c i o, c = 90 ∨ c = 91 ∨ c = 104 → zR (zab L xs zhH) c i = some o → False := fun c i o hc h => by
    rw [R] at h
    have := (hR_all zhH c i o b1 h).2
    omega
  have nR : ∀ i, zR (zab L xs zhH) 91 i = none := fun i => by
    cases hq : zR (zab L xs zhH) 91 i with
    | none => rfl
    | some o => exact (noR 91 i o (by omega) hq).elim
  have noC : ∀ o, zc (zab L xs zhH) o ≠ 5 := fun o => by
    rw [ab_c]
    exact hc_5 zhH o b1
  have w : ∀ (c off n hi : Nat), (c, n) ∈ [(94, 12), (95, 24), (99, 24), (100, 36), (101, 36), (102, 36), (105, 4), (131, 4)] → c ≠ 0 → 4 ≤ off → off + n ≤ 215 → jW off n hi (zI (zab L xs zhH) c) (zI (zab L xs zhH) 132) := fun c off n hi hm h0 h1 h2 j hj => by
    rw [zr (c, n) hm h0 j hj, z132 (off + j) (by omega), f0 (off + j) (by omega) (by omega)]
    exact ⟨rfl, g0 hi⟩
  refine ⟨⟨fun k hk => ?_, fun k h0 hk => ?_, fun k j q h => ?_, by omega⟩, ⟨⟨⟨fun j hj => ?_, ?_⟩, w 94 11 12 _ (by simp) (by omega) (by omega) (by omega), w 95 23 24 _ (by simp) (by omega) (by omega) (by omega), ⟨?_, ?_, fun y => ?_⟩, w 99 83 24 _ (by simp) (by omega) (by omega) (by omega), w 100 107 36 _ (by simp) (by omega) (by omega) (by omega), w 101 143 36 _ (by simp) (by omega) (by omega) (by omega), w 102 179 36 _ (by simp) (by omega) (by omega) (by omega), fun j hj => ?_⟩, fun j hj => ?_⟩, ⟨fun c j h1 h2 => ?_, jTape0 (z0 (76, 1) (by simp) (by decide)) (z0 (130, 5) (by simp) (by decide)), (zm (76, 8) (by simp) (by decide)).trans (zm (130, 11) (by simp) (by decide)).symm, ⟨0, by omega, z0 (75, 6) (by simp) (by decide), z0 (130, 14) (by simp) (by decide), fun i hi => by omega⟩, ⟨0, 0, by omega, by omega, z0 (75, 7) (by simp) (by decide), z0 (130, 15) (by simp) (by decide), z0 (130, 20) (by simp) (by decide), fun i _ => nR i, fun i hi => by omega⟩, ⟨0, by omega, z0 (75, 10) (by simp) (by decide), z0 (130, 4) (by simp) (by decide), fun i o h => absurd h (fun y => noR 104 i o (by omega) y), fun i hi => by omega⟩, zm (130, 34) (by simp) (by decide), Or.inl ⟨(R 125 1).trans (of_decide_eq_true d5), (R 125 2).trans (of_decide_eq_true d6)⟩, ⟨fun _ => 0, fun i o h => absurd h (fun y => noR 90 i o (by omega) y), fun i o h => absurd h (fun y => noR 91 i o (by omega) y), fun i o h => absurd h (fun y => noR 104 i o (by omega) y), fun o _ h5 => absurd h5 (noC o)⟩, fun c ⟨o, _, h5, _⟩ => absurd h5 (noC o), ⟨fun o k q _ h => ?_, fun c i _ h => ?_, fun c i o hc h => absurd h (fun y => noR c i o hc y)⟩⟩, ?_, ab_n0 zhH, ?_, ?_⟩
  · rw [ab_c]
    exact Nat.eq_of_beq_eq_true (zand (List.all_eq_true.mp a1 k (List.mem_range.mpr hk))).1
  · rw [ab_n zhH k (by omega)]
    rcases zor (zand (List.all_eq_true.mp a1 k (List.mem_range.mpr hk))).2 with y | y
    · have := Nat.eq_of_beq_eq_true y
      omega
    · exact Nat.eq_of_beq_eq_true y
  · obtain ⟨l1, l2⟩ := zTr_b h
    have y := List.all_eq_true.mp (List.all_eq_true.mp zf2_t k (List.mem_range.mpr l1)) j (List.mem_range.mpr l2)
    rw [h] at y
    rw [R]
    exact of_decide_eq_true y
  · rw [z93 j hj, z132 j (by omega)]
  · unfold jVal
    rw [z132 0 (by omega), z132 1 (by omega), z132 2 (by omega), z132 3 (by omega), z132 4 (by omega), z132 5 (by omega)]
    exact ⟨⟨2, by omega, by omega, rfl⟩, ⟨0, by omega, by omega, rfl⟩, ⟨24, by omega, by omega, rfl⟩, ⟨3, by omega, by omega, rfl⟩, ⟨0, by omega, by omega, rfl⟩, ⟨0, by omega, by omega, rfl⟩⟩
  · rw [z132 6 (by omega), f0 6 (by omega) (by omega)]
    exact g0 1
  · rw [z132 6 (by omega), f0 6 (by omega) (by omega)]
    exact z0 (92, 3) (by simp) (by decide)
  · rw [z132 6 (by omega), f0 6 (by omega) (by omega)] at y
    exact absurd y (by decide)
  · have e : f132 (215 + j) = - nI 1 := by
      unfold f132
      rw [if_neg (by omega), if_neg (by omega), if_neg (by omega), if_pos (by omega)]
    rw [z103 j hj, z132 (215 + j) (by omega), e]
    exact ⟨rfl, Or.inl rfl⟩
  · rw [zr (105, 4) (by simp) (by decide) j hj, zr (131, 4) (by simp) (by decide) j hj]
  · rw [I c j (by omega), hI_low zhH c j b1 h2]
    obtain ⟨n, rfl⟩ : ∃ n, c = n + 1 := ⟨c - 1, by omega⟩
    rfl
  · rw [R] at h
    have := (hR_all zhH o k q b1 h).1.1
    omega
  · rw [R] at h
    exact (hR_all zhH c i 125 b1 h).1.2 rfl
  · rw [ab_c]
    exact Nat.eq_of_beq_eq_true (zand (List.all_eq_true.mp a1 0 (List.mem_range.mpr (by omega)))).1
  · rw [ab_u]
    have := Nat.le_of_ble_eq_true b3
    omega
  · rw [ab_z]
    have := Nat.le_of_ble_eq_true b4
    omega
/-- all but task: what is owed follows from task's step -/
theorem zpure_of (ht : ∀ L, t_task (zInv L)) : zPure := fun L xs hL => by
  have ht := ht L
  have st : zSteps (zInv L) := ⟨s_feed, s_valley, s_way, ht, s_fault, s_told, s_act, s_judge, s_heap, s_place, s_run, s_ends, s_row, s_left, s_on, s_holds, s_right, s_least, s_find, s_keep, s_can, s_why, s_cheat, s_soon, s_hidden, s_places, s_pebbles, s_fewest, s_tell, s_word, s_stranger, s_field, s_share, s_even, s_envy, s_mind, s_mark, s_agree, s_kept, s_rate, s_trade, s_whole, s_knows, s_woman, s_image, s_restore, s_status, s_count⟩
  have W : zW 102 m_L_law 0 (zent 7 [.ref 0]) [] (zS0 L xs) (fun o S' => o = .inl (some (.int 1)) ∧ zu S' ≤ 601024 ∧ zz S' ≤ 7293034) := by
    refine zpx_W (L := L) (xs := xs) (H := []) 40 zgo_e ?_
    refine zlaw_loop hL st (fun n S h => ⟨h.1, h.2.2.2.1, h.2.2.2.2.1⟩) (fun n S hn h => ⟨rfl, ?_, ?_⟩) (L + 7) 0 0 z_inv0 (by omega) (by omega) (by omega) (by omega)
    · have := h.2.2.2.2.2.1
      omega
    · have := h.2.2.2.2.2.2
      omega
  obtain ⟨n, o, S', h1, rfl, h2, h3⟩ := W
  exact ⟨n, 102, S', by omega, h1, h2, h3⟩
