/-! A TASK's text, the reference's side: the loop over its C -/
theorem om_1 {b : Nat → Nat} {e f p : Nat} {bb ev cp : Bool} {W : List Nat} {op : Nat} {o : List (Nat × Nat)} (hv : ev = true → cp = true ∧ sj (hr b e p) = 0) (h0 : inn W = 0) (hw : sw (tkW b e p) = 0) : om b e (f + 1) false bb ev cp W op p o = if hr b e p = 59 then .inr (tkE b e p, (wof 1 W op o).2.2 ++ [(15, 0)]) else .inl (1, tkS b e p) := by
  rw [om_f, if_neg (fun y => y.2 (hv y.1).2), if_neg (by omega), if_neg (fun y => by have := (hv y.1).1; rw [this] at y; exact absurd y.2 (by decide)), if_neg (fun y => y hw), if_neg (by omega)]
theorem tlp_n {b : Nat → Nat} {e f p q : Nat} {cs : List (List (Nat × Nat))} {o : List (Nat × Nat)} (k : tkK b e p ≠ 0) (n : cs.length ≠ 12) (h : om b e 401 true true false false [] 0 p [] = .inr (q, o ++ [(15, 0)])) : tlp b e (f + 1) p cs = tlp b e f q (cs ++ [o]) := by
  rw [tlp_s, if_neg k, if_neg n, h]
  show tlp b e f q (cs ++ [(o ++ [(15, 0)]).dropLast]) = _
  rw [List.dropLast_concat]
theorem tlp_x {b : Nat → Nat} {e f p : Nat} {cs : List (List (Nat × Nat))} {x : Nat × Nat} (k : tkK b e p ≠ 0) (n : cs.length ≠ 12) (h : om b e 401 true true false false [] 0 p [] = .inl x) : tlp b e (f + 1) p cs = .inl x := by
  rw [tlp_s, if_neg k, if_neg n, h]
theorem tlp_12 {b : Nat → Nat} {e f p : Nat} {cs : List (List (Nat × Nat))} (k : tkK b e p ≠ 0) (n : cs.length = 12) : tlp b e (f + 1) p cs = .inl (fom b e p, tkS b e p) := by
  rw [tlp_s, if_neg k, if_pos n]
theorem tlp_e {b : Nat → Nat} {e f p : Nat} {cs : List (List (Nat × Nat))} (k : tkK b e p = 0) (n : cs.length ≠ 0) : tlp b e (f + 1) p cs = .inr cs := by
  rw [tlp_s, if_pos k, if_neg n]
def jTl (S : ZSt) (b : Nat → Nat) (e p tc st : Nat) (cs : List (List (Nat × Nat))) : Prop := zSh S ∧ zCst S ∧ jMx S b e ∧ p ≤ e ∧ zI S 130 7 = nI p ∧ jFn S ∧ zI S 130 10 = nI 0 ∧ zI S 130 15 = nI tc ∧ zI S 130 20 = nI (st + totl cs) ∧ (cs.length ≠ 0 → cdM S tc 0 st cs) ∧ st + totl cs ≤ 2000 + p
theorem w_M_ta41 {b : Nat → Nat} {e tc st : Nat} {x1 : Int32} {Q : ZOut → ZSt → Prop} (htc : tc < 6) : ∀ (f p : Nat) (cs : List (List (Nat × Nat))) {u4 u5 : Option Value} {S : ZSt}, f + cs.length = 13 → 0 < f → jTl S b e p tc st cs → (tkK b e p = 0 → cs.length ≠ 0) → (∀ k t, tlp b e f p cs = .inl (k, t) → ∀ S', zTm tc st S S' → zI S' 130 15 = nI tc → zI S' 130 20 = nI st → zI S' 142 = zI S 142 → zI S' 130 11 = nI t → Q (.inl (some (.int (nI k - nI 10)))) S') → (∀ cs', tlp b e f p cs = .inr cs' → ∀ S', zTm tc st S S' → zI S' 130 15 = nI (tc + 1) → zI S' 130 20 = nI (st + totl cs') → zI S' 130 11 = - nI 1 → zI S' 142 tc = nI cs'.length → cdM S' tc 0 st cs' → Q (.inl (some (.int (nI tc)))) S') → zW 101 m_M_task 41 [some (.ref 130), some (.int x1), some (.int (nI st)), some (.int (nI cs.length)), u4, u5] [] S Q
  | 0, p, cs, u4, u5, S, hf, h0, hj, hm, bad, ok => absurd h0 (Nat.lt_irrefl 0)
  | f + 1, p, cs, u4, u5, S, hf, h0, hj, hm, bad, ok => by
    obtain ⟨hS, hC, hx, hp, h7, hfn, h10, h15, h20, hcd, hbd⟩ := hj
    have he := hx.1
    obtain ⟨s1, s2⟩ := tkS_le (b := b) hp
    obtain ⟨y1, y2, y3, y4, y5⟩ := tk_S (b := b) hp
    have y0 := tkS_tkS (b := b) hp
    -- where a fault leads
    have BD : ∀ (k t : Nat) (S3 : ZSt), zTm tc st S S3 → zI S3 130 15 = nI tc → zI S3 142 = zI S 142 → tlp b e (f + 1) p cs = .inl (k, t) → Q (.inl (some (.int (nI k - nI 10)))) (zsI (zsI S3 130 11 (nI t)) 130 20 (nI st)) := fun k t S3 m3 a15 a142 hk => bad k t hk _ ((m3.tr (zTm.s rfl)).tr (zTm.s rfl)) (by rw [zI_o (by omega), zI_o (by omega)]; exact a15) zI_s (by rw [zI_ne _ _ (by omega), zI_ne _ _ (by omega)]; exact a142) (by rw [zI_o (by omega), zI_s])
    refine b_M_task_41 hS (w_M_fine1 hS hfn (b_M_task_43 hS ⟨fun h9 => absurd h9 (by decide), fun _ => w_M_isMore hS hx hp h7 (fun lt S1 j1 a1 => b_M_task_46 (j1.sh hS) ⟨fun h9 => absurd h9 (by decide), fun _ => ⟨fun h9 => ?_, fun h9 => ?_⟩⟩) (fun eq S1 j1 a1 => b_M_task_46 (j1.sh hS) ⟨fun _ => ?_, fun h9 => absurd rfl h9⟩)⟩))
    · -- one more C
      have kne : tkK b e p ≠ 0 := fun z => by
        have := (tkK_0 hp).mp z
        omega
      have n12 : cs.length ≠ 12 := fun z => h9 (by rw [z])
      have hS1 := j1.sh hS
      have hf1 := hfn.K j1
      have hx1 := hx.J j1
      have hC1 := hC.J j1.1 rfl
      have e15 : zI S1 130 15 = nI tc := (j1.2 15 (by omega)).trans h15
      have e20 : zI S1 130 20 = nI (st + totl cs) := (j1.2 20 (by omega)).trans h20
      refine w_M_fine1 hS1 hf1 (b_M_task_75 hS1 ⟨fun _ => ?_, fun h8 => absurd (by decide) h8⟩)
      rw [e15, pk_mul, nI_add, zcl9 (by omega), e20]
      refine ⟨zin (by omega) (by omega), ?_⟩
      have m1 : zTm tc st S S1 := (zKB.t (F0 := st) j1.B).k (Nat.le_refl _)
      have m2 : zTm tc st S1 (zsI S1 143 (13 * tc + cs.length) (nI (st + totl cs))) := zTm.f (by omega)
      have J2 : zJ [143] S1 (zsI S1 143 (13 * tc + cs.length) (nI (st + totl cs))) := zJ.rf.I rfl
      have c130 : zI (zsI S1 143 (13 * tc + cs.length) (nI (st + totl cs))) 130 = zI S1 130 := J2.2 130 rfl
      -- the C so far
      have hcd2 : cdM (zsI S1 143 (13 * tc + cs.length) (nI (st + totl cs))) tc 0 st cs := by
        by_cases c0 : cs.length = 0
        · obtain rfl : cs = [] := List.eq_nil_of_length_eq_zero c0
          show zI _ 143 (13 * tc + 0) = nI st
          have : 13 * tc + 0 = 13 * tc + ([] : List (List (Nat × Nat))).length := rfl
          rw [this, zI_s]
          rfl
        · refine cdM.cg (S := S1) (J2.2 140 rfl) (J2.2 141 rfl) ?_ (cdM.cg (j1.1.2 140 rfl) (j1.1.2 141 rfl) (j1.1.2 143 rfl) (hcd c0))
          have e : zI S1 143 (13 * tc + cs.length) = nI (st + totl cs) := by
            rw [j1.1.2 143 rfl]
            have := cdM_l cs 0 st (hcd c0)
            rw [Nat.add_zero] at this
            exact this
          funext j
          by_cases cj : j = 13 * tc + cs.length
          · rw [cj, zI_s]
            exact e.symm
          · rw [zI_o cj]
      have M2 := m1.tr m2
      generalize zsI S1 143 (13 * tc + cs.length) (nI (st + totl cs)) = S2 at m2 J2 c130 hcd2 M2 ⊢
      have hS2 := J2.sh hS1
      have hrd : jRd S2 b e (tkS b e p) 0 (st + totl cs) [] ([] : List Nat).length := ⟨hS2, hC1.J J2 rfl, hx1.K (by rw [c130]) (J2.2 134 rfl), s2, (congrFun c130 7).trans a1, by unfold jFn; rw [c130]; exact hf1, ⟨(congrFun c130 10).trans ((j1.2 10 (by omega)).trans h10), by omega⟩, ⟨(congrFun c130 20).trans e20, trivial⟩, by show st + totl cs + 0 + 0 ≤ _; omega⟩
      have d15 : zI S2 130 15 = nI tc := (congrFun c130 15).trans e15
      have d142 : zI S2 142 = zI S 142 := by rw [J2.2 142 rfl, j1.1.2 142 rfl]
      refine (l_all (b := b) (e := e) (F0 := st + totl cs) 401).2.2.1.2.2 100 0 (tkS b e p) [] [] false _ S2 _ (by omega) hrd (by omega) (by show (0 : Nat) < 1; omega) (by show (0 : Nat) ≠ 16; omega) (om_S hp) (fun k t r1 r2 r3 S4 m4 s4 d4 => ?_) (fun f' p' o' bb' ev' cp' W2 op2 ow2 S4 l1 l2 l3 r1 r2 r3 r4 m4 h4 => ?_)
      · have m4k := m4.k (tc := tc) (st := st) (by omega)
        have a15 : zI S4 130 15 = nI tc := (m4.2.1 15 rfl).trans d15
        refine b_M_task_90 s4 (w_M_sign0 s4 d4 (by omega) (b_M_task_93 s4 ?_))
        rw [a15, pk_mul, nI_add, nI_add, zcl9 (by omega)]
        have m5 : zTm tc st S4 (zsI S4 143 (13 * tc + (cs.length + 1)) (zI S4 130 20)) := zTm.f (by omega)
        have d5 : jBd (zsI S4 143 (13 * tc + (cs.length + 1)) (zI S4 130 20)) k t := d4.c (zI_ne _ _ (by omega))
        refine ⟨zin (by omega) (by omega), w_M_ta_bad (tc := tc) (m5.1.sh s4) (by rw [zI_ne _ _ (by omega)]; exact a15) (by omega) d5 r2 (by omega) (BD k t _ ((M2.tr m4k).tr m5) (by rw [zI_ne _ _ (by omega)]; exact a15) (by rw [zI_ne _ _ (by omega), m4.1.2 142 rfl]; exact d142) (tlp_x kne n12 r1))⟩
      · obtain ⟨hc4, hp4, -, -⟩ := h4.b
        obtain ⟨f', rfl⟩ : ∃ g, f' = g + 1 := ⟨f' - 1, by omega⟩
        have iw : inn W2 = 0 := inn_of (by omega) r2
        rw [om_1 r3 iw r4, r2] at r1
        have m4k := m4.k (tc := tc) (st := st) (by omega)
        refine b_M_task_90 h4.1 (r_sign rfl h4 (fun c59 S5 m5 h5 => b_M_task_93 h5.1 ?_) (fun c59 S5 m5 s5 d5 => b_M_task_93 s5 ?_))
        · rw [if_pos c59] at r1
          have m5k := m5.k (tc := tc) (st := st) (by omega)
          have a15 : zI S5 130 15 = nI tc := (m5.2.1 15 rfl).trans ((m4.2.1 15 rfl).trans d15)
          obtain ⟨g1, g2, g3, g4, g5, g6, ⟨g7, g8⟩, ⟨g9, g10⟩, g11⟩ := h5
          rw [a15, pk_mul, nI_add, nI_add, zcl9 (by omega), g9]
          refine ⟨zin (by omega) (by omega), ?_⟩
          have M5 := (M2.tr m4k).tr m5k
          have m6 : zTm tc st S5 (zsI S5 143 (13 * tc + (cs.length + 1)) (nI (st + totl cs + o'.length))) := zTm.f (by omega)
          have J6 : zJ [143] S5 (zsI S5 143 (13 * tc + (cs.length + 1)) (nI (st + totl cs + o'.length))) := zJ.rf.I rfl
          have c6 : zI (zsI S5 143 (13 * tc + (cs.length + 1)) (nI (st + totl cs + o'.length))) 130 = zI S5 130 := J6.2 130 rfl
          have hcd6 : cdM (zsI S5 143 (13 * tc + (cs.length + 1)) (nI (st + totl cs + o'.length))) tc 0 st (cs ++ [o']) := by
            refine cdM_a cs 0 st hcd2 (fun j hj => ?_) (fun j hj => ?_) ?_ ?_
            · rw [J6.2 140 rfl, J6.2 141 rfl]
              obtain ⟨x1, x2⟩ := m5.2.2 j (by omega)
              obtain ⟨x3, x4⟩ := m4.2.2 j (by omega)
              exact ⟨x1.trans x3, x2.trans x4⟩
            · rw [zI_o (by omega), m5.1.2 143 rfl, m4.1.2 143 rfl]
            · rw [J6.2 140 rfl, J6.2 141 rfl]
              exact g10
            · rw [show 13 * tc + 0 + cs.length + 1 = 13 * tc + (cs.length + 1) by omega, zI_s]
          have eL : (cs ++ [o']).length = cs.length + 1 := by rw [List.length_append]; rfl
          have R := w_M_ta41 (b := b) (e := e) (tc := tc) (st := st) (x1 := x1) (Q := Q) htc f (tkE b e p') (cs ++ [o']) (u4 := u4) (u5 := u5) (S := zsI S5 143 (13 * tc + (cs.length + 1)) (nI (st + totl cs + o'.length))) (by rw [eL]; omega) (by omega) ⟨J6.sh g1, g2.J J6 rfl, g3.K (by rw [c6]) (J6.2 134 rfl), g4, (congrFun c6 7).trans g5, by unfold jFn; rw [c6]; exact g6, (congrFun c6 10).trans g7, (congrFun c6 15).trans a15, by rw [totl_a]; exact (congrFun c6 20).trans (g9.trans (by rw [Nat.add_assoc])), fun _ => hcd6, by rw [totl_a]; omega⟩ (fun _ => by rw [eL]; omega)
          rw [eL] at R
          have hT : tlp b e (f + 1) p cs = tlp b e f (tkE b e p') (cs ++ [o']) := tlp_n kne n12 r1.symm
          rw [hT] at bad ok
          refine R (fun k t h S' j a15' a20 a142 a11 => ?_) (fun cs' h S' j a15' a20 a11 a142 w => ok cs' h S' ((M5.tr m6).tr j) a15' a20 a11 a142 w)
          refine bad k t h S' ((M5.tr m6).tr j) a15' a20 ?_ a11
          · rw [a142, J6.2 142 rfl, m5.1.2 142 rfl, m4.1.2 142 rfl]
            exact d142
        · rw [if_neg c59] at r1
          have m5k := m5.k (tc := tc) (st := st) (by omega)
          have a15 : zI S5 130 15 = nI tc := (m5.2.1 15 rfl).trans ((m4.2.1 15 rfl).trans d15)
          rw [a15, pk_mul, nI_add, nI_add, zcl9 (by omega)]
          have m6 : zTm tc st S5 (zsI S5 143 (13 * tc + (cs.length + 1)) (zI S5 130 20)) := zTm.f (by omega)
          have d6 : jBd (zsI S5 143 (13 * tc + (cs.length + 1)) (zI S5 130 20)) 1 (tkS b e p') := d5.c (zI_ne _ _ (by omega))
          have q4 := tkS_le (b := b) hp4
          refine ⟨zin (by omega) (by omega), w_M_ta_bad (tc := tc) (m6.1.sh s5) (by rw [zI_ne _ _ (by omega)]; exact a15) (by omega) d6 (by omega) (by omega) (BD 1 _ _ (((M2.tr m4k).tr m5k).tr m6) (by rw [zI_ne _ _ (by omega)]; exact a15) (by rw [zI_ne _ _ (by omega), m5.1.2 142 rfl, m4.1.2 142 rfl]; exact d142) (tlp_x kne n12 r1.symm))⟩
    · -- a thirteenth
      have kne : tkK b e p ≠ 0 := fun z => by
        have := (tkK_0 hp).mp z
        omega
      have e12 : cs.length = 12 := nEq (by omega) (by omega) (Classical.not_not.mp h9)
      have T12 := tlp_12 (f := f) kne e12
      have hS1 := j1.sh hS
      have hf1 := hfn.K j1
      have hx1 := hx.J j1
      have hC1 := hC.J j1.1 rfl
      have HK := hr_K (b := b) (e := e) (p := p) (k := 2) (Or.inr rfl)
      have fr := fom_r (b := b) (e := e) (p := p)
      refine w_M_isBegin hS1 hC1 hx1 s2 a1 (fun S2 j2 a2 => b_M_task_52 (j2.sh hS1) ?_)
      have hS2 := j2.sh hS1
      have J2 := j1.tr j2
      rw [y0] at a2
      rw [fbg_S hp, a2]
      refine w_M_here hS2 (hx.J J2) s2 a2 (fun S3 j3 a3 => b_M_task_58 (j3.sh hS2) ?_)
      have hS3 := j3.sh hS2
      have J3 := J2.tr j3
      rw [y0] at a3
      rw [y5]
      -- what is wrong with it
      have fin : ∀ (k : Nat) (S4 : ZSt), zKB S S4 → jBd S4 k (tkS b e p) → k = fom b e p → zW 101 m_M_task 73 [some (.ref 130), some (.int x1), some (.int (nI st)), some (.int (nI cs.length)), some (.int (nI (if fbg b e p = true then 1 else 0))), some (.int (nI (tkS b e p)))] [] S4 Q := fun k S4 j4 d4 hk => by
        have s4 := j4.sh hS
        have a15 : zI S4 130 15 = nI tc := (j4.2 15 (by omega) (by omega) (by omega)).trans h15
        exact b_M_task_73 s4 (w_M_fine0 s4 d4 (by omega) (b_M_task_75 s4 ⟨fun h8 => absurd rfl h8, fun _ => w_M_ta_end (tc := tc) s4 a15 (by omega) d4 (by omega) (by omega) (BD k _ S4 ((zKB.t (F0 := st) j4).k (Nat.le_refl _)) a15 (j4.1.2 142 rfl) (by rw [hk]; exact T12))⟩))
      refine w_M_isDigit (hr_lt hx) hS3 (b_M_task_59 hS3 ?_)
      by_cases k2 : tkK b e p = 2
      · have F : fbg b e p = true := by
          unfold fbg
          rw [k2]
          simp
        rw [if_pos (HK.mpr k2)]
        refine ⟨fun z => absurd z (by decide), fun _ => ?_⟩
        rw [F] at fin ⊢
        have one : ∀ (S4 : ZSt) (s0 : Int32), zSh S4 → (zcl 101 m_M_task m_M_wrong 136 72 [some (.ref 130), some (.int x1), some (.int (nI st)), some (.int (nI cs.length)), some (.int (nI (if true = true then 1 else 0))), some (.int (nI (tkS b e p)))] [] [.ref 130, .int (nI 3), .int (nI (tkS b e p))] S4 Q) → zW 101 m_M_task 64 [some (.ref 130), some (.int x1), some (.int (nI st)), some (.int (nI cs.length)), some (.int (nI (if true = true then 1 else 0))), some (.int (nI (tkS b e p)))] [.int s0] S4 Q := fun S4 s0 s4 h => b_M_task_64 s4 ⟨fun z => absurd z (by decide), fun _ => h⟩
        refine w_M_readNumber rfl hS3 (hx.J J3) s2 a3 (hfn.K J3) (fun g1 _ g3 S4 j4 a4 => one S4 _ (j4.sh hS3) (w_M_wrong (j4.sh hS3) ((hfn.K J3).K j4) (fun S5 j5 d5 => fin 3 S5 (zKB7 (J3.tr j4) j5) d5 ?_))) (fun g1 S4 j4 d4 => absurd (y1.trans k2) g1) (fun g1 g2 S4 j4 d4 => one S4 _ (j4.sh hS3) (q_wrong (j4.sh hS3) d4 (by omega) (fin 2 S4 (zKB7 J3 j4) (by rw [y0] at d4; exact d4) ?_)))
        · rw [y3] at g3
          unfold fom
          rw [if_pos k2, if_pos g3]
        · rw [y3] at g2
          unfold fom
          rw [if_pos k2, if_neg (fun z => g2 ⟨Nat.zero_le _, z⟩)]
      · rw [if_neg (fun z => k2 (HK.mp z))]
        refine ⟨fun _ => ?_, fun z => absurd rfl z⟩
        by_cases F : fbg b e p = true
        · rw [if_pos F] at fin ⊢
          refine ⟨fun z => absurd z (by decide), fun _ => w_M_wrong hS3 (hfn.K J3) (fun S5 j5 d5 => fin 3 S5 (zKB7 J3 j5) d5 ?_)⟩
          unfold fom
          rw [if_neg k2, if_pos F]
        · rw [if_neg F] at fin ⊢
          refine ⟨fun _ => w_M_wrong hS3 (hfn.K J3) (fun S5 j5 d5 => fin 1 S5 (zKB7 J3 j5) d5 ?_), fun z => absurd rfl z⟩
          unfold fom
          rw [if_neg k2, if_neg F]
    · -- the end
      have k0 : tkK b e p = 0 := (tkK_0 hp).mpr eq
      have m0 := hm k0
      have Te := tlp_e (f := f) k0 m0
      have hS1 := j1.sh hS
      have e15 : zI S1 130 15 = nI tc := (j1.2 15 (by omega)).trans h15
      rw [e15]
      refine w_M_result1 hS1 (hfn.K j1) (b_M_task_110 (((zJ.rf (l := [130])).I rfl).sh hS1) ?_)
      have e15' : zI (zsI S1 130 11 (- nI 1)) 130 15 = nI tc := by rw [zI_o (by omega)]; exact e15
      rw [e15', zcl9 (by omega), nI_add]
      have m1 : zTm tc st S S1 := (zKB.t (F0 := st) j1.B).k (Nat.le_refl _)
      have mx : zTm tc st (zsI S1 130 11 (- nI 1)) (zsI (zsI S1 130 11 (- nI 1)) 142 tc (nI cs.length)) := ⟨zJ.rf.I rfl, fun j _ => by rw [zI_ne _ _ (by omega)], fun j _ => by rw [zI_ne _ _ (by omega), zI_ne _ _ (by omega)]; exact ⟨rfl, rfl⟩, fun j _ => by rw [zI_ne _ _ (by omega)], fun j hj => by rw [zI_o hj]⟩
      refine ⟨fun _ => ⟨zin (by omega) (by omega), ok cs Te _ (((m1.tr (zTm.s rfl)).tr mx).tr (zTm.s rfl)) zI_s ?_ ?_ ?_ ?_⟩, fun h9 => absurd rfl h9⟩
      · rw [zI_o (by omega), zI_ne _ _ (by omega), zI_o (by omega), j1.2 20 (by omega)]
        exact h20
      · rw [zI_o (by omega), zI_ne _ _ (by omega), zI_s]
      · rw [zI_ne _ _ (by omega), zI_s]
      · refine cdM.cg (S := S) ?_ ?_ ?_ (hcd m0)
        · rw [zI_ne _ _ (by omega), zI_ne _ _ (by omega), zI_ne _ _ (by omega), j1.1.2 140 rfl]
        · rw [zI_ne _ _ (by omega), zI_ne _ _ (by omega), zI_ne _ _ (by omega), j1.1.2 141 rfl]
        · rw [zI_ne _ _ (by omega), zI_ne _ _ (by omega), zI_ne _ _ (by omega), j1.1.2 143 rfl]
