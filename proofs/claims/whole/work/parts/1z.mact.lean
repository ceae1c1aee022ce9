/-! A WAY's text: the reference's side, an act -/
def zMa (q0 : Nat) (S S' : ZSt) : Prop := zJ [130, 137, 138, 139] S S' ∧ (∀ j, zmem j [7, 8, 9, 11] = false → zI S' 130 j = zI S 130 j) ∧ ∀ j, j ≠ q0 → zI S' 137 j = zI S 137 j ∧ zI S' 138 j = zI S 138 j ∧ zI S' 139 j = zI S 139 j
theorem zKB.a {q0 : Nat} {S S' : ZSt} (h : zKB S S') : zMa q0 S S' := ⟨⟨h.1.1, fun c hc => h.1.2 c (zsub_of rfl c hc)⟩, fun j hj => h.2 j (fun e => by rw [e] at hj; cases hj) (fun e => by rw [e] at hj; cases hj) (fun e => by rw [e] at hj; cases hj), fun j _ => ⟨by rw [h.1.2 137 rfl], by rw [h.1.2 138 rfl], by rw [h.1.2 139 rfl]⟩⟩
theorem zMa.tr {q0 : Nat} {S S1 S2 : ZSt} (h1 : zMa q0 S S1) (h2 : zMa q0 S1 S2) : zMa q0 S S2 := ⟨h1.1.tr h2.1, fun j hj => (h2.2.1 j hj).trans (h1.2.1 j hj), fun j hj => ⟨(h2.2.2 j hj).1.trans (h1.2.2 j hj).1, (h2.2.2 j hj).2.1.trans (h1.2.2 j hj).2.1, (h2.2.2 j hj).2.2.trans (h1.2.2 j hj).2.2⟩⟩
theorem zMa.st {q0 : Nat} {S : ZSt} {x A B : Int32} : zMa q0 S (zsI (zsI (zsI S 137 q0 x) 138 q0 A) 139 q0 B) := ⟨((zJ.rf.I rfl).I rfl).I rfl, fun j _ => by rw [zI_ne _ _ (by omega), zI_ne _ _ (by omega), zI_ne _ _ (by omega)], fun j hj => ⟨by rw [zI_ne _ _ (by omega), zI_ne _ _ (by omega), zI_o hj], by rw [zI_ne _ _ (by omega), zI_o hj, zI_ne _ _ (by omega)], by rw [zI_o hj, zI_ne _ _ (by omega), zI_ne _ _ (by omega)]⟩⟩
theorem zKB7 {S S1 S2 : ZSt} (h1 : zK7 S S1) (h2 : zKB S1 S2) : zKB S S2 := h1.B.tr h2
set_option maxHeartbeats 4000000 in
theorem w_M_readAct {b : Nat → Nat} {e q i q0 : Nat} {S : ZSt} {Q : ZOut → ZSt → Prop} (hi : i < 12) (h0 : q0 < 168) (hS : zSh S) (hx : jMx S b e) (hq : q ≤ e) (h7 : zI S 130 7 = nI q) (hf : jFn S)
    (bad : ∀ k t, wnu b e i q = .inl (k, t) → 1 ≤ k ∧ k ≤ 4 → t ≤ e → ∀ S', zMa q0 S S' → jBd S' k t → Q (.inl none) S')
    (ok : ∀ a c r, wnu b e i q = .inr (a, c, r) → r ≤ e → ∀ S', zMa q0 S S' → jFn S' → zI S' 130 7 = nI r → zI S' 137 q0 = nI i → zI S' 138 q0 = eA i a → zI S' 139 q0 = eB i c → Q (.inl none) S') : zC m_M_readAct [.ref 130, .int (nI q0), .int (nI i)] S Q := by
  have he := hx.1
  have c0 : (nI q0).toNatClampNeg = q0 := zcl9 (by omega)
  obtain ⟨t1, t2⟩ := tkS_le (b := b) hq
  have q2 := tkE_le (b := b) hq
  obtain ⟨t3, t4⟩ := tkS_le (b := b) q2
  have wl := wm_le (i := i)
  have stB : ∀ (k t : Nat) (S1 : ZSt) (A B : Int32), zKB S S1 → jBd S1 k t → 1 ≤ k ∧ k ≤ 4 → t ≤ e → wnu b e i q = .inl (k, t) → (vp_in (nI q0) 168 ∧ (vp_in (nI q0) 168 ∧ (vp_in (nI q0) 168 ∧ Q (.inl none) (zsI (zsI (zsI S1 137 ((nI q0).toNatClampNeg) (nI i)) 138 ((nI q0).toNatClampNeg) A) 139 ((nI q0).toNatClampNeg) B)))) := fun k t S1 A B k1 k2 k3 k4 k5 => by
    rw [c0]
    refine ⟨zin h0 (by omega), zin h0 (by omega), zin h0 (by omega), bad k t k5 k3 k4 _ (k1.a.tr zMa.st) (k2.c ?_)⟩
    rw [zI_ne _ _ (by omega), zI_ne _ _ (by omega), zI_ne _ _ (by omega)]
  have stO : ∀ (a c r : Nat) (S1 : ZSt) (A B : Int32), zK7 S S1 → zI S1 130 7 = nI r → r ≤ e → wnu b e i q = .inr (a, c, r) → A = eA i a → B = eB i c → (vp_in (nI q0) 168 ∧ (vp_in (nI q0) 168 ∧ (vp_in (nI q0) 168 ∧ Q (.inl none) (zsI (zsI (zsI S1 137 ((nI q0).toNatClampNeg) (nI i)) 138 ((nI q0).toNatClampNeg) A) 139 ((nI q0).toNatClampNeg) B)))) := fun a c r S1 A B k1 k2 k3 k4 k5 k6 => by
    rw [c0]
    have e130 : zI (zsI (zsI (zsI S1 137 q0 (nI i)) 138 q0 A) 139 q0 B) 130 = zI S1 130 := by rw [zI_ne _ _ (by omega), zI_ne _ _ (by omega), zI_ne _ _ (by omega)]
    refine ⟨zin h0 (by omega), zin h0 (by omega), zin h0 (by omega), ok a c r k4 k3 _ (k1.B.a.tr zMa.st) ?_ (by rw [e130]; exact k2) ?_ ?_ ?_⟩
    · unfold jFn
      rw [e130]
      exact hf.K k1
    · rw [zI_ne _ _ (by omega), zI_ne _ _ (by omega), zI_s]
    · rw [zI_ne _ _ (by omega), zI_s]
      exact k5
    · rw [zI_s]
      exact k6
  have eAi : i ≠ 11 → ∀ a, nI a = eA i a := fun h a => by
    unfold eA
    rw [if_neg h]
  have eBi : wse i = true → ∀ c, nI c = eB i c := fun h c => by rw [eB_e, if_pos h]
  have eBn : ¬ wse i = true → ∀ c, - nI 1 = eB i c := fun h c => by rw [eB_e, if_neg h]
  have W0 : i ≠ 11 → wnu b e i q = if tkK b e q = 2 then (if tkV b e q ≤ wm1 i then (if wse i = true then (if tkK b e (tkE b e q) = 2 then (if tkV b e (tkE b e q) ≤ wm2 i ∧ ¬ ((i = 2 ∨ i = 3) ∧ tkV b e (tkE b e q) = tkV b e q) then .inr (tkV b e q, tkV b e (tkE b e q), tkE b e (tkE b e q)) else .inl (2, tkS b e (tkE b e q))) else .inl (1, tkS b e (tkE b e q))) else .inr (tkV b e q, 0, tkE b e q)) else .inl (2, tkS b e q)) else .inl (1, tkS b e q) := fun h => by
    unfold wnu
    rw [if_neg h]
  -- one number
  have one : ∀ (mx pc ix : Nat), i ≠ 11 → ¬ wse i = true → mx = wm1 i → (∀ (s0 : Int32) (S' : ZSt), zSh S' → (vp_in (nI q0) 168 ∧ (vp_in (nI q0) 168 ∧ (vp_in (nI q0) 168 ∧ Q (.inl none) (zsI (zsI (zsI S' 137 ((nI q0).toNatClampNeg) (nI i)) 138 ((nI q0).toNatClampNeg) s0) 139 ((nI q0).toNatClampNeg) (- nI 1))))) → zW 3 m_M_readAct (ix + 1) [some (.ref 130), some (.int (nI q0)), some (.int (nI i)), some (.int (- nI 1)), some (.int (- nI 1)), none, none] [.int s0] S' Q) → zcl 3 m_M_readAct m_M_readNumber pc ix [some (.ref 130), some (.int (nI q0)), some (.int (nI i)), some (.int (- nI 1)), some (.int (- nI 1)), none, none] [] [.ref 130, .int (nI 0), .int (nI mx)] S Q := fun mx pc ix h11 hw hmx K => by
    have W := W0 h11
    rw [if_neg hw] at W
    refine w_M_readNumber (by rw [Bool.and_eq_true]; exact ⟨rfl, Nat.ble_eq_true_of_le (by omega)⟩) hS hx hq h7 hf (fun g1 _ g3 S5 j5 a5 => K _ S5 (j5.sh hS) (stO _ 0 _ S5 _ _ j5 a5 q2 ?_ (eAi h11 _) (eBn hw _))) (fun g1 S5 j5 d5 => K _ S5 (j5.sh hS) (stB 1 _ S5 _ _ j5 d5 (by omega) t2 ?_)) (fun g1 g2 S5 j5 d5 => K _ S5 (j5.sh hS) (stB 2 _ S5 _ _ j5 d5 (by omega) t2 ?_))
    · rw [if_pos g1, if_pos (by omega)] at W
      exact W
    · rw [if_neg g1] at W
      exact W
    · rw [if_pos g1, if_neg (by omega)] at W
      exact W
  -- two numbers
  have two : ∀ (mx pc ix pc2 ix2 : Nat), i ≠ 11 → wse i = true → ¬ (i = 2 ∨ i = 3) → mx = wm1 i → (∀ (s0 : Int32) (S' : ZSt), zSh S' → zcl 3 m_M_readAct m_M_readNumber pc2 ix2 [some (.ref 130), some (.int (nI q0)), some (.int (nI i)), some (.int s0), some (.int (- nI 1)), none, none] [] [.ref 130, .int (nI 0), .int (nI 24)] S' Q → zW 3 m_M_readAct (ix + 1) [some (.ref 130), some (.int (nI q0)), some (.int (nI i)), some (.int (- nI 1)), some (.int (- nI 1)), none, none] [.int s0] S' Q) → (∀ (x3 s0 : Int32) (S' : ZSt), zSh S' → (vp_in (nI q0) 168 ∧ (vp_in (nI q0) 168 ∧ (vp_in (nI q0) 168 ∧ Q (.inl none) (zsI (zsI (zsI S' 137 ((nI q0).toNatClampNeg) (nI i)) 138 ((nI q0).toNatClampNeg) x3) 139 ((nI q0).toNatClampNeg) s0)))) → zW 3 m_M_readAct (ix2 + 1) [some (.ref 130), some (.int (nI q0)), some (.int (nI i)), some (.int x3), some (.int (- nI 1)), none, none] [.int s0] S' Q) → zcl 3 m_M_readAct m_M_readNumber pc ix [some (.ref 130), some (.int (nI q0)), some (.int (nI i)), some (.int (- nI 1)), some (.int (- nI 1)), none, none] [] [.ref 130, .int (nI 0), .int (nI mx)] S Q := fun mx pc ix pc2 ix2 h11 hw h23 hmx K1 K2 => by
    have W := W0 h11
    rw [if_pos hw] at W
    have w24 : wm2 i = 24 := by
      have := wse_i.mp hw
      unfold wm2
      rw [if_neg (by omega)]
    refine w_M_readNumber (by rw [Bool.and_eq_true]; exact ⟨rfl, Nat.ble_eq_true_of_le (by omega)⟩) hS hx hq h7 hf (fun g1 _ g3 S5 j5 a5 => K1 _ S5 (j5.sh hS) ?_) (fun g1 S5 j5 d5 => K1 _ S5 (j5.sh hS) (w_M_readNumber0 (j5.sh hS) d5 (by omega) (K2 _ _ S5 (j5.sh hS) (stB 1 _ S5 _ _ j5 d5 (by omega) t2 ?_)))) (fun g1 g2 S5 j5 d5 => K1 _ S5 (j5.sh hS) (w_M_readNumber0 (j5.sh hS) d5 (by omega) (K2 _ _ S5 (j5.sh hS) (stB 2 _ S5 _ _ j5 d5 (by omega) t2 ?_))))
    · rw [if_pos g1, if_pos (show tkV b e q ≤ wm1 i by omega)] at W
      have hS5 := j5.sh hS
      refine w_M_readNumber rfl hS5 (hx.J j5) q2 a5 (hf.K j5) (fun f1 _ f3 S6 j6 a6 => K2 _ _ S6 (j6.sh hS5) (stO _ _ _ S6 _ _ (j5.tr j6) a6 (tkE_le q2) ?_ (eAi h11 _) (eBi hw _))) (fun f1 S6 j6 d6 => K2 _ _ S6 (j6.sh hS5) (stB 1 _ S6 _ _ (zKB7 j5 j6) d6 (by omega) t4 ?_)) (fun f1 f2 S6 j6 d6 => K2 _ _ S6 (j6.sh hS5) (stB 2 _ S6 _ _ (zKB7 j5 j6) d6 (by omega) t4 ?_))
      · rw [if_pos f1, if_pos ⟨by omega, fun z => h23 z.1⟩] at W
        exact W
      · rw [if_neg f1] at W
        exact W
      · rw [if_pos f1, if_neg (fun z => f2 ⟨Nat.zero_le _, by omega⟩)] at W
        exact W
    · rw [if_neg g1] at W
      exact W
    · rw [if_pos g1, if_neg (by omega)] at W
      exact W
  -- two heaps that are not the same
  have par : (i = 2 ∨ i = 3) → zcl 3 m_M_readAct m_M_readNumber 79 15 [some (.ref 130), some (.int (nI q0)), some (.int (nI i)), some (.int (- nI 1)), some (.int (- nI 1)), none, none] [] [.ref 130, .int (nI 0), .int (nI 11)] S Q := fun h23 => by
    have h11 : i ≠ 11 := by omega
    have hw : wse i = true := wse_i.mpr (by omega)
    have w11 : wm1 i = 11 ∧ wm2 i = 11 := by
      unfold wm1 wm2
      rw [if_pos (by omega), if_pos (by omega)]
      exact ⟨rfl, rfl⟩
    have W := W0 h11
    rw [if_pos hw, w11.1, w11.2] at W
    have lost : ∀ (k : Nat) (s0 : Int32) (S5 : ZSt), zKB S S5 → jBd S5 k (tkS b e q) → 1 ≤ k ∧ k ≤ 4 → wnu b e i q = .inl (k, tkS b e q) → zW 3 m_M_readAct 16 [some (.ref 130), some (.int (nI q0)), some (.int (nI i)), some (.int (- nI 1)), some (.int (- nI 1)), none, none] [.int s0] S5 Q := fun k s0 S5 j5 d5 k4 W1 => by
      have hS5 := j5.sh hS
      exact b_M_readAct_16 hS5 (w_M_fine0 hS5 d5 (by omega) (b_M_readAct_19 hS5 ⟨fun _ => w_M_readNumber0 hS5 d5 (by omega) (b_M_readAct_32 hS5 (w_M_fine0 hS5 d5 (by omega) (b_M_readAct_35 hS5 ⟨fun _ => stB k _ S5 _ _ j5 d5 k4 t2 W1, fun h9 => absurd rfl h9⟩))), fun h9 => absurd rfl h9⟩))
    refine w_M_readNumber rfl hS hx hq h7 hf (fun g1 _ g3 S5 j5 a5 => b_M_readAct_16 (j5.sh hS) (w_M_fine1 (j5.sh hS) (hf.K j5) (b_M_readAct_19 (j5.sh hS) ⟨fun h9 => absurd h9 (by decide), fun _ => w_M_here (j5.sh hS) (hx.J j5) q2 a5 (fun S6 j6 a6 => b_M_readAct_22 (j6.sh (j5.sh hS)) ?_)⟩))) (fun g1 S5 j5 d5 => lost 1 _ S5 j5 d5 (by omega) ?_) (fun g1 g2 S5 j5 d5 => lost 2 _ S5 j5 d5 (by omega) ?_)
    · have hS6 := j6.sh (j5.sh hS)
      have J6 := j5.tr j6
      have hf6 := hf.K J6
      obtain ⟨y1, y2, y3, -⟩ := tk_S (b := b) q2
      have y0 := tkS_tkS (b := b) q2
      rw [if_pos g1, if_pos g3] at W
      rw [a6]
      refine w_M_readNumber rfl hS6 (hx.J J6) t4 a6 hf6 (fun f1 _ f3 S7 j7 a7 => b_M_readAct_32 (j7.sh hS6) (w_M_fine1 (j7.sh hS6) (hf6.K j7) (b_M_readAct_35 (j7.sh hS6) ⟨fun h9 => absurd h9 (by decide), fun _ => ⟨fun h9 => ?_, fun h9 => ?_⟩⟩))) (fun f1 S7 j7 d7 => b_M_readAct_32 (j7.sh hS6) (w_M_fine0 (j7.sh hS6) d7 (by omega) (b_M_readAct_35 (j7.sh hS6) ⟨fun _ => stB 1 _ S7 _ _ (zKB7 J6 j7) d7 (by omega) (by omega) ?_, fun h9 => absurd rfl h9⟩))) (fun f1 f2 S7 j7 d7 => b_M_readAct_32 (j7.sh hS6) (w_M_fine0 (j7.sh hS6) d7 (by omega) (b_M_readAct_35 (j7.sh hS6) ⟨fun _ => stB 2 _ S7 _ _ (zKB7 J6 j7) d7 (by omega) (by omega) ?_, fun h9 => absurd rfl h9⟩)))
      · rw [y1] at f1
        rw [y3] at f3 h9
        rw [y2] at a7
        rw [y3]
        have ne : ¬ tkV b e (tkE b e q) = tkV b e q := fun z => h9 (by rw [z])
        rw [if_pos f1, if_pos ⟨f3, fun z => ne z.2⟩] at W
        exact stO _ _ _ S7 _ _ (J6.tr j7) a7 (tkE_le q2) W (eAi h11 _) (eBi hw _)
      · rw [y1] at f1
        rw [y3] at f3 h9
        have vl := tkV_le (b := b) (e := e) (p := q)
        have vl2 := tkV_le (b := b) (e := e) (p := tkE b e q)
        have eq : tkV b e q = tkV b e (tkE b e q) := nEq (by omega) (by omega) (Classical.not_not.mp h9)
        rw [if_pos f1, if_neg (fun z => z.2 ⟨h23, eq.symm⟩)] at W
        exact w_M_wrong (j7.sh hS6) (hf6.K j7) (fun S8 j8 d8 => b_M_readAct_43 (j8.sh (j7.sh hS6)) (stB 2 _ S8 _ _ (zKB7 (J6.tr j7) j8) d8 (by omega) t4 W))
      · rw [y1] at f1
        rw [if_neg f1] at W
        rw [y0]
        exact W
      · rw [y1] at f1
        rw [y3] at f2
        rw [if_pos f1, if_neg (fun z => f2 ⟨Nat.zero_le _, z.1⟩)] at W
        rw [y0]
        exact W
    · rw [if_neg g1] at W
      exact W
    · rw [if_pos g1, if_neg (fun z => g2 ⟨Nat.zero_le _, z⟩)] at W
      exact W
  rcases (show i = 0 ∨ i = 1 ∨ i = 2 ∨ i = 3 ∨ i = 4 ∨ i = 5 ∨ i = 6 ∨ i = 7 ∨ i = 8 ∨ i = 9 ∨ i = 10 ∨ i = 11 by omega) with h | h | h | h | h | h | h | h | h | h | h | h <;> subst h
  · exact b_M_readAct hS ⟨⟨fun h => one 11 68 9 (by omega) (by decide) rfl (fun s0 S' h k => b_M_readAct_10 h k), ⟨fun h => absurd h (by decide), ⟨fun h => absurd h (by decide), ⟨fun h => absurd h (by decide), ⟨fun h => absurd h (by decide), ⟨fun h => absurd h (by decide), ⟨fun h => absurd h (by decide), ⟨fun h => absurd h (by decide), ⟨fun h => absurd h (by decide), ⟨fun h => absurd h (by decide), ⟨fun h => absurd h (by decide), trivial⟩⟩⟩⟩⟩⟩⟩⟩⟩⟩⟩, fun h => absurd h (by decide)⟩
  · exact b_M_readAct hS ⟨⟨fun h => absurd h (by decide), ⟨fun h => one 11 68 9 (by omega) (by decide) rfl (fun s0 S' h k => b_M_readAct_10 h k), ⟨fun h => absurd h (by decide), ⟨fun h => absurd h (by decide), ⟨fun h => absurd h (by decide), ⟨fun h => absurd h (by decide), ⟨fun h => absurd h (by decide), ⟨fun h => absurd h (by decide), ⟨fun h => absurd h (by decide), ⟨fun h => absurd h (by decide), ⟨fun h => absurd h (by decide), trivial⟩⟩⟩⟩⟩⟩⟩⟩⟩⟩⟩, fun h => absurd h (by decide)⟩
  · exact b_M_readAct hS ⟨⟨fun h => absurd h (by decide), ⟨fun h => absurd h (by decide), ⟨fun h => par (by omega), ⟨fun h => absurd h (by decide), ⟨fun h => absurd h (by decide), ⟨fun h => absurd h (by decide), ⟨fun h => absurd h (by decide), ⟨fun h => absurd h (by decide), ⟨fun h => absurd h (by decide), ⟨fun h => absurd h (by decide), ⟨fun h => absurd h (by decide), trivial⟩⟩⟩⟩⟩⟩⟩⟩⟩⟩⟩, fun h => absurd h (by decide)⟩
  · exact b_M_readAct hS ⟨⟨fun h => absurd h (by decide), ⟨fun h => absurd h (by decide), ⟨fun h => absurd h (by decide), ⟨fun h => par (by omega), ⟨fun h => absurd h (by decide), ⟨fun h => absurd h (by decide), ⟨fun h => absurd h (by decide), ⟨fun h => absurd h (by decide), ⟨fun h => absurd h (by decide), ⟨fun h => absurd h (by decide), ⟨fun h => absurd h (by decide), trivial⟩⟩⟩⟩⟩⟩⟩⟩⟩⟩⟩, fun h => absurd h (by decide)⟩
  · exact b_M_readAct hS ⟨⟨fun h => absurd h (by decide), ⟨fun h => absurd h (by decide), ⟨fun h => absurd h (by decide), ⟨fun h => absurd h (by decide), ⟨fun h => two 11 142 47 150 52 (by omega) rfl (by omega) rfl (fun s0 S' h k => b_M_readAct_48 h k) (fun x3 s0 S' h k => b_M_readAct_53 h k), ⟨fun h => absurd h (by decide), ⟨fun h => absurd h (by decide), ⟨fun h => absurd h (by decide), ⟨fun h => absurd h (by decide), ⟨fun h => absurd h (by decide), ⟨fun h => absurd h (by decide), trivial⟩⟩⟩⟩⟩⟩⟩⟩⟩⟩⟩, fun h => absurd h (by decide)⟩
  · exact b_M_readAct hS ⟨⟨fun h => absurd h (by decide), ⟨fun h => absurd h (by decide), ⟨fun h => absurd h (by decide), ⟨fun h => absurd h (by decide), ⟨fun h => absurd h (by decide), ⟨fun h => one 23 162 58 (by omega) (by decide) rfl (fun s0 S' h k => b_M_readAct_59 h k), ⟨fun h => absurd h (by decide), ⟨fun h => absurd h (by decide), ⟨fun h => absurd h (by decide), ⟨fun h => absurd h (by decide), ⟨fun h => absurd h (by decide), trivial⟩⟩⟩⟩⟩⟩⟩⟩⟩⟩⟩, fun h => absurd h (by decide)⟩
  · exact b_M_readAct hS ⟨⟨fun h => absurd h (by decide), ⟨fun h => absurd h (by decide), ⟨fun h => absurd h (by decide), ⟨fun h => absurd h (by decide), ⟨fun h => absurd h (by decide), ⟨fun h => absurd h (by decide), ⟨fun h => one 23 162 58 (by omega) (by decide) rfl (fun s0 S' h k => b_M_readAct_59 h k), ⟨fun h => absurd h (by decide), ⟨fun h => absurd h (by decide), ⟨fun h => absurd h (by decide), ⟨fun h => absurd h (by decide), trivial⟩⟩⟩⟩⟩⟩⟩⟩⟩⟩⟩, fun h => absurd h (by decide)⟩
  · exact b_M_readAct hS ⟨⟨fun h => absurd h (by decide), ⟨fun h => absurd h (by decide), ⟨fun h => absurd h (by decide), ⟨fun h => absurd h (by decide), ⟨fun h => absurd h (by decide), ⟨fun h => absurd h (by decide), ⟨fun h => absurd h (by decide), ⟨fun h => two 23 173 64 181 69 (by omega) rfl (by omega) rfl (fun s0 S' h k => b_M_readAct_65 h k) (fun x3 s0 S' h k => b_M_readAct_70 h k), ⟨fun h => absurd h (by decide), ⟨fun h => absurd h (by decide), ⟨fun h => absurd h (by decide), trivial⟩⟩⟩⟩⟩⟩⟩⟩⟩⟩⟩, fun h => absurd h (by decide)⟩
  · exact b_M_readAct hS ⟨⟨fun h => absurd h (by decide), ⟨fun h => absurd h (by decide), ⟨fun h => absurd h (by decide), ⟨fun h => absurd h (by decide), ⟨fun h => absurd h (by decide), ⟨fun h => absurd h (by decide), ⟨fun h => absurd h (by decide), ⟨fun h => absurd h (by decide), ⟨fun h => two 23 173 64 181 69 (by omega) rfl (by omega) rfl (fun s0 S' h k => b_M_readAct_65 h k) (fun x3 s0 S' h k => b_M_readAct_70 h k), ⟨fun h => absurd h (by decide), ⟨fun h => absurd h (by decide), trivial⟩⟩⟩⟩⟩⟩⟩⟩⟩⟩⟩, fun h => absurd h (by decide)⟩
  · exact b_M_readAct hS ⟨⟨fun h => absurd h (by decide), ⟨fun h => absurd h (by decide), ⟨fun h => absurd h (by decide), ⟨fun h => absurd h (by decide), ⟨fun h => absurd h (by decide), ⟨fun h => absurd h (by decide), ⟨fun h => absurd h (by decide), ⟨fun h => absurd h (by decide), ⟨fun h => absurd h (by decide), ⟨fun h => one 24 193 75 (by omega) (by decide) rfl (fun s0 S' h k => b_M_readAct_76 h k), ⟨fun h => absurd h (by decide), trivial⟩⟩⟩⟩⟩⟩⟩⟩⟩⟩⟩, fun h => absurd h (by decide)⟩
  · exact b_M_readAct hS ⟨⟨fun h => absurd h (by decide), ⟨fun h => absurd h (by decide), ⟨fun h => absurd h (by decide), ⟨fun h => absurd h (by decide), ⟨fun h => absurd h (by decide), ⟨fun h => absurd h (by decide), ⟨fun h => absurd h (by decide), ⟨fun h => absurd h (by decide), ⟨fun h => absurd h (by decide), ⟨fun h => absurd h (by decide), ⟨fun h => one 3 203 81 (by omega) (by decide) rfl (fun s0 S' h k => b_M_readAct_82 h k), trivial⟩⟩⟩⟩⟩⟩⟩⟩⟩⟩⟩, fun h => absurd h (by decide)⟩
  · exact b_M_readAct hS ⟨⟨fun h => absurd h (by decide), ⟨fun h => absurd h (by decide), ⟨fun h => absurd h (by decide), ⟨fun h => absurd h (by decide), ⟨fun h => absurd h (by decide), ⟨fun h => absurd h (by decide), ⟨fun h => absurd h (by decide), ⟨fun h => absurd h (by decide), ⟨fun h => absurd h (by decide), ⟨fun h => absurd h (by decide), ⟨fun h => absurd h (by decide), trivial⟩⟩⟩⟩⟩⟩⟩⟩⟩⟩⟩, fun h => stO 0 0 q S _ _ zK7.rf h7 hq (by unfold wnu; rw [if_pos rfl]) rfl rfl⟩
