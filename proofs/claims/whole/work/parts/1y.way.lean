/-! A WAY's text: pure, and the object's side -/
def wse (i : Nat) : Bool := Nat.beq i 2 || (Nat.beq i 3 || (Nat.beq i 4 || (Nat.beq i 7 || Nat.beq i 8)))
def wm1 (i : Nat) : Nat := if i ≤ 4 then 11 else if i ≤ 8 then 23 else if i = 9 then 24 else 3
def wm2 (i : Nat) : Nat := if i ≤ 3 then 11 else 24
def wnu (b : Nat → Nat) (e i q : Nat) : (Nat × Nat) ⊕ (Nat × Nat × Nat) := if i = 11 then .inr (0, 0, q) else if tkK b e q = 2 then (if tkV b e q ≤ wm1 i then (if wse i = true then (if tkK b e (tkE b e q) = 2 then (if tkV b e (tkE b e q) ≤ wm2 i ∧ ¬ ((i = 2 ∨ i = 3) ∧ tkV b e (tkE b e q) = tkV b e q) then .inr (tkV b e q, tkV b e (tkE b e q), tkE b e (tkE b e q)) else .inl (2, tkS b e (tkE b e q))) else .inl (1, tkS b e (tkE b e q))) else .inr (tkV b e q, 0, tkE b e q)) else .inl (2, tkS b e q)) else .inl (1, tkS b e q)
def wac (b : Nat → Nat) (e p i : Nat) : (Nat × Nat) ⊕ (Nat × Nat × Nat) := match wnu b e i (tkE b e p) with
  | .inl x => .inl x
  | .inr y => if hr b e y.2.2 = 59 then .inr (y.1, y.2.1, tkE b e y.2.2) else .inl (1, tkS b e y.2.2)
def wlp (b : Nat → Nat) (e : Nat) : Nat → Nat → (Nat → Nat) → (Nat → Nat) → (Nat → Nat) → Nat → (Nat × Nat) ⊕ ((Nat → Nat) × (Nat → Nat) × (Nat → Nat) × Nat)
  | 0, _, _, _, _, _ => .inl (0, 0)
  | f + 1, p, kd, fa, fb, m => if tkK b e p = 0 then (if m = 0 then .inl (1, tkS b e p) else .inr (kd, fa, fb, m)) else match ixN (sW 23) (tkW b e p) 0 with
    | none => .inl (1, tkS b e p)
    | some i => if m = 24 then .inl (3, tkS b e p) else match wac b e p i with
      | .inl x => .inl x
      | .inr y => wlp b e f y.2.2 (upN kd m i) (upN fa m y.1) (upN fb m y.2.1) (m + 1)
theorem sW23 : (sW 23).length = 12 := by decide +kernel
theorem wcn : ∀ i, i < 12 → (zcon.getD 4 []).getD i 0 = (if i = 11 then - nI 1 else nI (wm1 i)) ∧ (zcon.getD 5 []).getD i 0 = (if wse i = true then nI (wm2 i) else - nI 1) := by decide +kernel
theorem wse_i {i : Nat} : wse i = true ↔ (i = 2 ∨ i = 3 ∨ i = 4 ∨ i = 7 ∨ i = 8) := by
  unfold wse
  simp only [Bool.or_eq_true, Nat.beq_eq]
theorem wm_le {i : Nat} : wm1 i ≤ 24 ∧ wm2 i ≤ 24 := by
  unfold wm1 wm2
  refine ⟨?_, ?_⟩
  · split
    · omega
    · split
      · omega
      · split <;> omega
  · split <;> omega
theorem eB_e {i b : Nat} : eB i b = if wse i = true then nI b else - nI 1 := by
  unfold eB
  by_cases h : i = 2 ∨ i = 3 ∨ i = 4 ∨ i = 7 ∨ i = 8
  · rw [if_pos h, if_pos (wse_i.mpr h)]
  · rw [if_neg h, if_neg (fun z => h (wse_i.mp z))]
/-- what the reading of a way may change -/
def zWr (S S' : ZSt) : Prop := zJ [76, 82, 83, 84, 85] S S' ∧ ∀ j, j < 3 → zI S' 76 j = zI S 76 j
theorem zWr.rf {S : ZSt} : zWr S S := ⟨zJ.rf, fun _ _ => rfl⟩
theorem zWr.tr {S S1 S2 : ZSt} (h1 : zWr S S1) (h2 : zWr S1 S2) : zWr S S2 := ⟨h1.1.tr h2.1, fun j hj => (h2.2 j hj).trans (h1.2 j hj)⟩
theorem zJ7.w {S S' : ZSt} (h : zJ7 S S') : zWr S S' := ⟨⟨h.1.1, fun c hc => h.1.2 c (zsub_of rfl c hc)⟩, fun j hj => h.2 j (Or.inl hj)⟩
theorem jTx.W {S S' : ZSt} {b : Nat → Nat} {e : Nat} (h : jTx S b e) (j : zWr S S') : jTx S' b e := ⟨h.1, (j.2 2 (by omega)).trans h.2.1, fun k hk => ⟨(h.2.2 k hk).1, by rw [j.1.2 77 rfl]; exact (h.2.2 k hk).2⟩⟩
theorem zWr.bad {S S' : ZSt} {k t : Nat} (j : zWr S S') : zWr S (zsI (zsI S' 76 7 (nI k)) 76 8 (nI t)) := ⟨(j.1.I rfl).I rfl, fun i hi => by rw [zI_o (by omega), zI_o (by omega)]; exact j.2 i hi⟩
/-- the acts read so far -/
def jAc (S : ZSt) (m : Nat) (kd fa fb : Nat → Nat) : Prop := zI S 82 3 = nI m ∧ ∀ k, k < m → zI S 83 k = nI (kd k) ∧ zI S 84 k = eA (kd k) (fa k) ∧ zI S 85 k = eB (kd k) (fb k)
theorem jAc.c {S S' : ZSt} {m : Nat} {kd fa fb : Nat → Nat} (h : jAc S m kd fa fb) (e2 : zI S' 82 = zI S 82) (e3 : zI S' 83 = zI S 83) (e4 : zI S' 84 = zI S 84) (e5 : zI S' 85 = zI S 85) : jAc S' m kd fa fb := by
  unfold jAc
  rw [e2, e3, e4, e5]
  exact h
theorem w_Wb_add {m i a c : Nat} {kd fa fb : Nat → Nat} {S : ZSt} {Q : ZOut → ZSt → Prop} (hS : zSh S) (hm : m < 24) (h : jAc S m kd fa fb) (hQ : ∀ S', zJ [82, 83, 84, 85] S S' → jAc S' (m + 1) (upN kd m i) (upN fa m a) (upN fb m c) → Q (.inl none) S') : zC m_Wa_add [.ref 82, .int (nI i), .int (eA i a), .int (eB i c)] S Q := by
  obtain ⟨h3, hr⟩ := h
  refine b_Wb_add hS ?_
  rw [h3, nI_add, pk_sub (by omega), show m + 1 - 1 = m by omega]
  refine ⟨fun h9 => absurd h9 (nI_ge (by omega) (by omega)), fun _ => ?_⟩
  have j1 : zJ [82, 83, 84, 85] S (zsI S 82 3 (nI (m + 1))) := zJ.rf.I rfl
  have hS1 := j1.sh hS
  refine b_Wb_change hS1 (w_N_isNotR rfl hS1 (fun _ => b_Wb_change_4 hS1 ⟨fun h9 => absurd rfl h9, fun _ => ⟨zin hm (by omega), zin hm (by omega), zin hm (by omega), ?_⟩⟩) (fun h9 => absurd ⟨m, by omega, by omega, rfl⟩ h9))
  rw [zcl9 (by omega)]
  have j2 : zJ [82, 83, 84, 85] S (zsI (zsI (zsI (zsI S 82 3 (nI (m + 1))) 83 m (nI i)) 84 m (eA i a)) 85 m (eB i c)) := ((j1.I rfl).I rfl).I rfl
  refine b_Wb_add_19 (j2.sh hS) (hQ _ j2 ⟨?_, fun k hk => ?_⟩)
  · rw [zI_ne _ _ (by omega), zI_ne _ _ (by omega), zI_ne _ _ (by omega), zI_s]
  · rw [zI_ne (c := 83) _ _ (by omega), zI_ne (c := 83) _ _ (by omega), zI_ne (c := 84) _ _ (by omega)]
    unfold upN
    by_cases e : k = m
    · rw [if_pos e, if_pos e, if_pos e, e, zI_s, zI_s, zI_s]
      exact ⟨rfl, rfl, rfl⟩
    · rw [if_neg e, if_neg e, if_neg e, zI_o e, zI_o e, zI_o e, zI_ne _ _ (by omega), zI_ne _ _ (by omega), zI_ne _ _ (by omega), zI_ne (c := 85) _ _ (by omega), zI_ne (c := 85) _ _ (by omega), zI_ne (c := 85) _ _ (by omega)]
      exact hr k (by omega)
theorem wnu_le {b : Nat → Nat} {e i q a c r : Nat} (hq : q ≤ e) (h : wnu b e i q = .inr (a, c, r)) : r ≤ e := by
  unfold wnu at h
  have q1 := tkE_le (b := b) hq
  have q2 := tkE_le (b := b) q1
  split at h
  · cases h
    exact hq
  · split at h
    · split at h
      · split at h
        · split at h
          · split at h
            · cases h
              exact q2
            · cases h
          · cases h
        · cases h
          exact q1
      · cases h
    · cases h
theorem w_WR_nums {b : Nat → Nat} {e p i m : Nat} {kd fa fb : Nat → Nat} {S : ZSt} {Q : ZOut → ZSt → Prop} (hS : zSh S) (hC : zCst S) (hx : jTx S b e) (hp : p ≤ e) (ht : jTo S b e (tkE b e p)) (hi : i < 12) (hm : m < 24) (ha : jAc S m kd fa fb)
    (bad : ∀ k t, wac b e p i = .inl (k, t) → ∀ S', zWr S S' → zI S' 76 7 = nI k → zI S' 76 8 = nI t → Q (.inl (some (.int (nI 0)))) S')
    (ok : ∀ a c q, wac b e p i = .inr (a, c, q) → q ≤ e → ∀ S', zWr S S' → jTo S' b e q → jAc S' (m + 1) (upN kd m i) (upN fa m a) (upN fb m c) → zI S' 76 8 = zI S 76 8 → Q (.inl (some (.int (nI 1)))) S') : zC m_WR_readsNumbers [.ref 81, .ref 76, .int (nI i)] S Q := by
  have he := hx.1
  have hp1 := tkE_le (b := b) hp
  obtain ⟨n1, n2⟩ := wcn i hi
  have wl := wm_le (i := i)
  have J76 : ∀ {S' : ZSt} {k t : Nat}, zSh S' → zSh (zsI (zsI S' 76 7 (nI k)) 76 8 (nI t)) := fun h => ((zJ.rf (l := [76])).I rfl |>.I rfl |>.sh) h
  -- an act's end
  have fin : ∀ (a c q : Nat) (S3 : ZSt) (u5 : Option Value), zWr S S3 → jTx S3 b e → q ≤ e → jTo S3 b e q → jAc S3 m kd fa fb → zI S3 76 8 = zI S 76 8 → wnu b e i (tkE b e p) = .inr (a, c, q) → zcl 4 m_WR_readsNumbers m_Wa_add 123 75 [some (.ref 81), some (.ref 76), some (.int (nI i)), some (.int (eA i a)), some (.int (eB i c)), u5] [] [.ref 82, .int (nI i), .int (eA i a), .int (eB i c)] S3 Q := fun a c q S3 u5 k1 k2 k3 k4 k5 k6 k7 => by
    have hS3 := k1.1.sh hS
    refine w_Wb_add hS3 hm k5 (fun S4 j4 a4 => b_WR_readsNumbers_76 (j4.sh hS3) ?_)
    have j4w : zWr S3 S4 := ⟨⟨j4.1, fun x hx => j4.2 x (zsub_of rfl x hx)⟩, fun j _ => by rw [j4.2 76 rfl]⟩
    have hS4 := j4.sh hS3
    refine w_Ta_semi hS4 (k2.W j4w) k3 (k4.c (j4.2 76 rfl)) (fun h8 S5 j5 t5 => b_WR_readsNumbers_79 (j5.sh hS4) ⟨by decide, ok a c (tkE b e q) ?_ (tkE_le k3) S5 ((k1.tr j4w).tr j5.w) t5 (a4.c (j5.1.2 82 rfl) (j5.1.2 83 rfl) (j5.1.2 84 rfl) (j5.1.2 85 rfl)) ?_⟩) (fun h8 => b_WR_readsNumbers_79 (J76 hS4) ⟨by decide, bad 1 (tkS b e q) ?_ _ (k1.tr j4w).bad (by rw [zI_o (by omega), zI_s]) zI_s⟩)
    · unfold wac
      rw [k7]
      exact if_pos h8
    · rw [j5.2 8 (by omega), j4.2 76 rfl]
      exact k6
    · unfold wac
      rw [k7]
      exact if_neg h8
  have wbad : ∀ (k t : Nat), wnu b e i (tkE b e p) = .inl (k, t) → wac b e p i = .inl (k, t) := fun k t h => by
    unfold wac
    rw [h]
  refine b_WR_readsNumbers hS (w_N_isNotU (A := 12) (by omega) hS (fun _ => b_WR_readsNumbers_7 hS ⟨fun h9 => absurd rfl h9, fun _ => w_N_isNotU (A := 12) (by omega) hS (fun _ => b_WR_readsNumbers_15 hS ⟨fun _ => ⟨?_, ?_⟩, fun h9 => absurd (by decide) h9⟩) (fun h9 => absurd rfl (h9 i hi))⟩) (fun h9 => absurd rfl (h9 i hi)))
  · exact zin hi (by omega)
  · rw [zcl9 (by omega), hC 4 i (by omega) (by omega), n1]
    by_cases c11 : i = 11
    · rw [if_pos c11]
      refine ⟨fun _ => b_WR_readsNumbers_42 hS ⟨zin hi (by omega), ?_⟩, fun h9 => absurd rfl h9⟩
      rw [zcl9 (by omega), hC 5 i (by omega) (by omega), n2, if_neg (by rw [c11]; decide)]
      refine ⟨fun _ => ?_, fun h9 => absurd rfl h9⟩
      have W : wnu b e i (tkE b e p) = .inr (0, 0, tkE b e p) := by
        unfold wnu
        rw [if_pos c11]
      have e1 : eA i 0 = - nI 1 := by
        unfold eA
        rw [if_pos c11]
      have e2 : eB i 0 = - nI 1 := by
        rw [eB_e, if_neg (by rw [c11]; decide)]
      have := fin 0 0 (tkE b e p) S none zWr.rf hx hp1 ht ha rfl W
      rw [e1, e2] at this
      exact this
    · rw [if_neg c11]
      refine ⟨fun h9 => absurd h9 (nI_m1 (by omega)), fun _ => ⟨zin hi (by omega), ?_⟩⟩
      have W0 : wnu b e i (tkE b e p) = if tkK b e (tkE b e p) = 2 then (if tkV b e (tkE b e p) ≤ wm1 i then (if wse i = true then (if tkK b e (tkE b e (tkE b e p)) = 2 then (if tkV b e (tkE b e (tkE b e p)) ≤ wm2 i ∧ ¬ ((i = 2 ∨ i = 3) ∧ tkV b e (tkE b e (tkE b e p)) = tkV b e (tkE b e p)) then .inr (tkV b e (tkE b e p), tkV b e (tkE b e (tkE b e p)), tkE b e (tkE b e (tkE b e p))) else .inl (2, tkS b e (tkE b e (tkE b e p)))) else .inl (1, tkS b e (tkE b e (tkE b e p)))) else .inr (tkV b e (tkE b e p), 0, tkE b e (tkE b e p))) else .inl (2, tkS b e (tkE b e p))) else .inl (1, tkS b e (tkE b e p)) := by
        unfold wnu
        rw [if_neg c11]
      refine w_Ta_takeNumber (by rw [Bool.and_eq_true]; exact ⟨rfl, Nat.ble_eq_true_of_le (by omega)⟩) hS hx hp1 ht (fun k2 _ l2 _ S3 j3 t3 => b_WR_readsNumbers_36 (j3.sh hS) ⟨fun _ => ?_, fun h8 => absurd (nI_m1 (by have := tkV_le (b := b) (e := e) (p := tkE b e p); omega)) h8⟩) (fun k2 => b_WR_readsNumbers_36 (J76 hS) ⟨fun h8 => absurd rfl h8, fun _ => ⟨by decide, ?_⟩⟩) (fun k2 l => b_WR_readsNumbers_36 (J76 hS) ⟨fun h8 => absurd rfl h8, fun _ => ⟨by decide, ?_⟩⟩)
      · have hS3 := j3.sh hS
        have vl := tkV_le (b := b) (e := e) (p := tkE b e p)
        rw [if_pos k2, if_pos l2] at W0
        have hC3 := hC.J j3.1 rfl
        have hx3 := hx.J j3
        have q2 := tkE_le (b := b) hp1
        have ha3 : jAc S3 m kd fa fb := ha.c (j3.1.2 82 rfl) (j3.1.2 83 rfl) (j3.1.2 84 rfl) (j3.1.2 85 rfl)
        have c8 : zI S3 76 8 = zI S 76 8 := j3.2 8 (by omega)
        refine b_WR_readsNumbers_42 hS3 ⟨zin hi (by omega), ?_⟩
        rw [zcl9 (by omega), hC3 5 i (by omega) (by omega), n2]
        have eAi : eA i (tkV b e (tkE b e p)) = nI (tkV b e (tkE b e p)) := by
          unfold eA
          rw [if_neg c11]
        by_cases c2 : wse i = true
        · rw [if_pos c2]
          rw [if_pos c2] at W0
          refine ⟨fun h9 => absurd h9 (nI_m1 (by omega)), fun _ => ?_⟩
          have vl2 := tkV_le (b := b) (e := e) (p := tkE b e (tkE b e p))
          have num : ∀ (x : Int32) (x5 : Int32), ((i = 2 ∨ i = 3) → x = nI (tkV b e (tkE b e p))) → (¬ (i = 2 ∨ i = 3) → x = - nI 1) → zcl 4 m_WR_readsNumbers m_Ta_takeNumber 102 63 [some (.ref 81), some (.ref 76), some (.int (nI i)), some (.int (nI (tkV b e (tkE b e p)))), some (.int (- nI 1)), some (.int x5)] [] [.ref 76, .int (nI 0), .int (nI (wm2 i)), .int x] S3 Q := fun x x5 hx1 hx2 => by
            have X : nI (tkV b e (tkE b e (tkE b e p))) = x ↔ ((i = 2 ∨ i = 3) ∧ tkV b e (tkE b e (tkE b e p)) = tkV b e (tkE b e p)) := by
              by_cases c3 : i = 2 ∨ i = 3
              · rw [hx1 c3]
                exact ⟨fun z => ⟨c3, nEq (by omega) (by omega) z⟩, fun z => by rw [z.2]⟩
              · rw [hx2 c3]
                exact ⟨fun z => absurd z (nI_m1 (by omega)), fun z => absurd z.1 c3⟩
            refine w_Ta_takeNumber (by rw [Bool.and_eq_true]; exact ⟨rfl, Nat.ble_eq_true_of_le (by omega)⟩) hS3 hx3 q2 t3 (fun g2 _ m2 nx S4 j4 t4 => b_WR_readsNumbers_64 (j4.sh hS3) ⟨fun _ => ?_, fun h8 => absurd (nI_m1 (by omega)) h8⟩) (fun g2 => b_WR_readsNumbers_64 (J76 hS3) ⟨fun h8 => absurd rfl h8, fun _ => ⟨by decide, ?_⟩⟩) (fun g2 l => b_WR_readsNumbers_64 (J76 hS3) ⟨fun h8 => absurd rfl h8, fun _ => ⟨by decide, ?_⟩⟩)
            · rw [if_pos g2, if_pos ⟨m2, fun z => nx (X.mpr z)⟩] at W0
              have := fin _ _ _ S4 (some (.int x5)) (j3.w.tr j4.w) (hx3.J j4) (tkE_le q2) t4 (ha3.c (j4.1.2 82 rfl) (j4.1.2 83 rfl) (j4.1.2 84 rfl) (j4.1.2 85 rfl)) ((j4.2 8 (by omega)).trans c8) W0
              rw [eAi, eB_e, if_pos c2] at this
              exact this
            · rw [if_neg g2] at W0
              exact bad 1 _ (wbad _ _ W0) _ j3.w.bad (by rw [zI_o (by omega), zI_s]) zI_s
            · rw [if_pos g2, if_neg (by rcases l with l | l; exact fun z => l ⟨Nat.zero_le _, z.1⟩; exact fun z => z.2 (X.mp l))] at W0
              exact bad 2 _ (wbad _ _ W0) _ j3.w.bad (by rw [zI_o (by omega), zI_s]) zI_s
          refine ⟨fun h9 => ⟨zin hi (by omega), ?_⟩, fun h9 => ⟨fun h8 => ⟨zin hi (by omega), ?_⟩, fun h8 => ⟨zin hi (by omega), ?_⟩⟩⟩
          · exact num _ _ (fun _ => rfl) (fun z => absurd (Or.inl (nEq (by omega) (by omega) h9)) z)
          · exact num _ _ (fun z => by rcases z with z | z; exact absurd (by rw [z]) h9; exact absurd (by rw [z]) h8) (fun _ => rfl)
          · exact num _ _ (fun _ => rfl) (fun z => absurd (Or.inr (nEq (by omega) (by omega) (Classical.not_not.mp h8))) z)
        · rw [if_neg c2]
          rw [if_neg c2] at W0
          refine ⟨fun _ => ?_, fun h9 => absurd rfl h9⟩
          have := fin _ _ _ S3 none j3.w hx3 q2 t3 ha3 c8 W0
          rw [eAi, eB_e, if_neg c2] at this
          exact this
      · rw [if_neg k2] at W0
        exact bad 1 _ (wbad _ _ W0) _ zWr.rf.bad (by rw [zI_o (by omega), zI_s]) zI_s
      · rw [if_pos k2, if_neg (by rcases l with l | l; exact fun z => l ⟨Nat.zero_le _, z⟩; exact absurd l (nI_m1 (by have := tkV_le (b := b) (e := e) (p := tkE b e p); omega)))] at W0
        exact bad 2 _ (wbad _ _ W0) _ zWr.rf.bad (by rw [zI_o (by omega), zI_s]) zI_s
