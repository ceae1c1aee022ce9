/-! A TASK's text, the object's reader: a sign, a step of the machine -/
theorem inn_r : ∀ (W : List Nat), inn W = 0 ∨ inn W = 16 ∨ inn W = 17
  | [] => Or.inl rfl
  | s :: W => by
    have e : inn (s :: W) = if s = 16 ∨ s = 17 then s else inn W := rfl
    rw [e]
    split
    · rename_i h
      exact Or.inr h
    · exact inn_r W
theorem sj_b {c : Nat} (h : sj c ≠ 0) : 5 ≤ sj c ∧ sj c ≤ 8 := by
  rcases sj_r h with ⟨-, e, -⟩ | ⟨-, e, -⟩ | ⟨-, e, -⟩ | ⟨-, e, -⟩ <;> rw [e] <;> omega
theorem sc_b {c : Nat} (h : sc c ≠ 0) : (9 ≤ sc c ∧ sc c ≤ 11) ∧ ran (sc c) = 4 := by
  rcases sc_r h with ⟨-, e⟩ | ⟨-, e⟩ | ⟨-, e⟩ <;> rw [e] <;> exact ⟨⟨by omega, by omega⟩, rfl⟩
theorem w_TR_readsSign {b : Nat → Nat} {e p op : Nat} {W : List Nat} {O o : List (Nat × Nat)} {bb ev cp : Bool} {S : ZSt} {Q : ZOut → ZSt → Prop} (hS : zSh S) (hC : zCst S) (hx : jTx S b e) (h : omS b e O S false bb ev cp W op p o)
    (bad : ∀ k t, (∀ f, om b e (f + 1) false bb ev cp W op p o = .inl (k, t)) → ∀ S', zTj S S' → zI S' 76 7 = nI k → zI S' 76 8 = nI t → Q (.inl (some (.int (nI 0)))) S')
    (done : ∀ q oo, (∀ f, om b e (f + 1) false bb ev cp W op p o = .inr (q, oo)) → p < q → q ≤ e → ∀ S', zTj S S' → jTo S' b e q → jWa S' [] 0 → jOu S' (O ++ oo) → zI S' 76 8 = zI S 76 8 → zI S' 86 10 = nI 1 → Q (.inl (some (.int (nI 1)))) S')
    (ok : ∀ lv' bb' ev' cp' W' op' p' o', (∀ f, om b e (f + 1) false bb ev cp W op p o = om b e f lv' bb' ev' cp' W' op' p' o') → p < p' → ∀ S', zTj S S' → omS b e O S' lv' bb' ev' cp' W' op' p' o' → zI S' 76 8 = zI S 76 8 → zI S' 86 10 = zI S 86 10 → Q (.inl (some (.int (nI 1)))) S') : zC m_TR_readsSign [.ref 86, .ref 76] S Q := by
  obtain ⟨⟨ht, hp⟩, ⟨hf, hw⟩, ho, hi⟩ := h
  have he := hx.1
  have wl := hi.len
  have i6 := hi.2.1
  have il := hi.2.2.1
  have el := tkE_le (b := b) hp
  have sl := (tkS_le (b := b) hp).1
  have hz := hi.1
  have ol : (O ++ o).length = O.length + o.length := List.length_append
  -- a sign that joins
  have jn : ∀ (s : Nat) (x cp1 : Bool) {S1 : ZSt}, (5 ≤ s ∧ s < 14) → zTj S S1 → jTo S1 b e p → jFg S1 false bb ev cp1 → jWa S1 W op → jOu S1 (O ++ o) → zI S1 76 8 = zI S 76 8 → zI S1 86 10 = zI S 86 10 → p < tkE b e p → iOm O.length true x (s :: (wof (ran s) W op o).1) (wof (ran s) W op o).2.1 (tkE b e p) (wof (ran s) W op o).2.2 → (∀ f, om b e (f + 1) false bb ev cp W op p o = om b e f true x ev (if x = true then false else cp1) (s :: (wof (ran s) W op o).1) (wof (ran s) W op o).2.1 (tkE b e p) (wof (ran s) W op o).2.2) → ∀ (K : ZOut → ZSt → Prop), (∀ v S', Q (.inl (some (.int v))) S' → zSh S' → narrow .boolean (.int v) = .int v → K (.inl (some (.int v))) S') → zC m_TR_joins [.ref 86, .ref 76, .int (nI s), .int (bo x)] S1 K := fun s x cp1 S1 hs j1 t1 f1 w1 o1 a8 a10 lt iom hom K hK => by
    have E := wof_p (r := ran s) (O := O) W op o
    refine w_TR_joins hs (j1.1.sh hS) (hC.J j1.1 rfl) (hx.j j1) hp t1 f1 w1 o1 hz i6 (by omega) (by omega) (fun S' j t' f' w' o' b8 b10 => hK _ _ (ok true x ev _ _ _ _ _ hom lt S' (j1.tr j) ⟨⟨t', el⟩, ⟨f', ?_⟩, ?_, iom⟩ (b8.trans a8) (b10.trans a10)) (j.1.sh (j1.1.sh hS)) (by decide))
    · rw [E] at w'
      exact w'
    · rw [E] at o'
      exact o'
  -- the end of a bracket
  have cl : ∀ (c y : Nat) (x : Bool), kOf c = 3 ∧ c ≠ 0 ∧ c < 256 → (y = 16 ∨ y = 17) → inn W = y → (¬ hr b e p = c → ∀ f, om b e (f + 1) false bb ev cp W op p o = .inl (1, tkS b e p)) → (hr b e p = c → ∀ f, om b e (f + 1) false bb ev cp W op p o = om b e f false bb x cp (wof 1 W op o).1.tail ((wof 1 W op o).2.1 - 1) (tkE b e p) (wof 1 W op o).2.2) → ∀ (K : ZOut → ZSt → Prop), (∀ v S', Q (.inl (some (.int v))) S' → zSh S' → narrow .boolean (.int v) = .int v → K (.inl (some (.int v))) S') → zC m_TR_closes [.ref 86, .ref 76, .int (nI c), .int (bo x)] S K := fun c y x hc hy hin hB hV K hK => by
    have E := wof_p (r := 1) (O := O) W op o
    have I := hr_is (b := b) (e := e) (p := p) (c := c) hc.1 hc.2.1
    obtain ⟨wz, -, -, -, -⟩ := wof_i (Nat.le_refl 1) W op o hz hi.2.2.2.1
    by_cases hh : hr b e p = c
    · have lt : p < tkE b e p := by
        have := kLt (b := b) hp (by have := (I.mp hh).1; omega)
        omega
      obtain ⟨ic, W2, eW⟩ := hi.close (p' := tkE b e p) (bb' := bb) lt hy hin
      have hop : 1 ≤ (wof 1 W op o).2.1 := by
        rw [eW] at wz
        exact (wz.1.1 (by rcases hy with y1 | y1 <;> rw [y1]; exact Or.inr (Or.inl rfl); exact Or.inr (Or.inr rfl))).1
      have hV' := hV hh
      rw [eW] at hV' ic
      refine w_TR_closes (y := y) (W2 := W2) hc hS hC hx hp ht hf hw ho hz i6 (by omega) (by omega) (by rw [E]; exact eW) (by rw [E]; exact hop) (fun n => absurd hh n) (fun _ S' j t' f' w' o' b8 b10 => hK _ _ (ok false bb x cp W2 _ _ _ hV' lt S' j ⟨⟨t', el⟩, ⟨f', ?_⟩, ?_, ic⟩ b8 b10) (j.1.sh hS) (by decide))
      · rw [E] at w'
        exact w'
      · rw [E] at o'
        exact o'
    · obtain ⟨W2, eW⟩ := wof_top W op o rfl hz hin (by omega)
      have hop : 1 ≤ (wof 1 W op o).2.1 := by
        rw [eW] at wz
        exact (wz.1.1 (by rcases hy with y1 | y1 <;> rw [y1]; exact Or.inr (Or.inl rfl); exact Or.inr (Or.inr rfl))).1
      exact w_TR_closes (y := y) (W2 := W2) hc hS hC hx hp ht hf hw ho hz i6 (by omega) (by omega) (by rw [E]; exact eW) (by rw [E]; exact hop) (fun n S' j a7 a8 => hK _ _ (bad 1 _ (hB n) S' j a7 a8) (j.1.sh hS) (by decide)) (fun h9 => absurd h9 hh)
  have K21 : ∀ x2 : Int32, ¬ (ev = true ∧ sj (hr b e p) ≠ 0) → zcl 7 m_TR_readsSign m_TR_innermostOpen 34 21 [some (.ref 86), some (.ref 76), some (.int x2), none] [] [.ref 86] S Q := fun x2 nj => by
    refine w_TR_innermostOpen hS hw (by omega) (b_TR_readsSign_22 hS ?_)
    by_cases c16 : inn W = 16
    · have es : inO W = nI 16 := by
        unfold inO
        rw [if_neg (by omega), c16]
      rw [es]
      exact ⟨fun h9 => absurd rfl h9, fun _ => cl 41 16 true ⟨rfl, by omega, by omega⟩ (Or.inl rfl) c16 (fun n f => om_f.trans ((if_neg nj).trans ((if_pos c16).trans (if_neg n)))) (fun n f => om_f.trans ((if_neg nj).trans ((if_pos c16).trans (if_pos n)))) _ (fun v S' hq hS' hn => b_TR_readsSign_31 hS' ⟨hn, hq⟩)⟩
    · have ns : ¬ inO W = nI 16 := fun y => by
        unfold inO at y
        rcases inn_r W with i0 | i0 | i0
        · rw [if_pos i0] at y
          exact nI_m1 (by omega) y.symm
        · exact c16 i0
        · rw [if_neg (by omega), i0] at y
          exact absurd (nEq (by omega) (by omega) y) (by omega)
      have K62 : ¬ (ev = true ∧ cp = false) → zcl 7 m_TR_readsSign m_Ta_wordAmong 106 62 [some (.ref 86), some (.ref 76), some (.int x2), some (.int (inO W))] [] [.ref 76, .ref 19] S Q := fun nc => by
        refine w_Ta_wordAmong rfl hS hC hx hp ht (b_TR_readsSign_63 hS ?_)
        rw [wx19]
        by_cases s0 : sw (tkW b e p) = 0
        · rw [if_pos s0]
          refine ⟨fun _ => ⟨fun n17 => ?_, fun e17 => ?_⟩, fun h9 => absurd rfl h9⟩
          · have i0 : inn W = 0 := by
              rcases inn_r W with i0 | i0 | i0
              · exact i0
              · exact absurd i0 c16
              · exact absurd (by unfold inO; rw [if_neg (by omega), i0]) n17
            have E := wof_p (r := 1) (O := O) W op o
            obtain ⟨wz, -, -, -, -⟩ := wof_i (Nat.le_refl 1) W op o hz hi.2.2.2.1
            have eN := wof_nil W op o hz (by omega) (by omega)
            have lt : hr b e p = 59 → p < tkE b e p := fun h8 => by
              have := kLt (b := b) hp (by have := ((hr_is (b := b) (e := e) (p := p) (c := 59) rfl (by omega)).mp h8).1; omega)
              omega
            refine w_TR_endsCondition hS hC hx hp ht hw ho hz i6 (fun h8 => by have := lt h8; omega) (by omega) (by omega) (fun n S' j a7 a8 => b_TR_readsSign_87 (j.1.sh hS) ⟨by decide, bad 1 _ (fun f => om_f.trans ((if_neg nj).trans ((if_neg c16).trans ((if_neg nc).trans ((if_neg (fun y => y s0)).trans ((if_neg (by omega)).trans (if_neg n))))))) S' j a7 a8⟩) (fun h8 S' j t' w' o' b8 b10 => b_TR_readsSign_87 (j.1.sh hS) ⟨by decide, done (tkE b e p) _ (fun f => om_f.trans ((if_neg nj).trans ((if_neg c16).trans ((if_neg nc).trans ((if_neg (fun y => y s0)).trans ((if_neg (by omega)).trans (if_pos h8))))))) (lt h8) el S' j t' ?_ ?_ b8 b10⟩)
            · rw [E, eN] at w'
              rw [eN] at wz
              have ez : (wof 1 W op o).2.1 = 0 := wz
              rw [ez] at w'
              exact w'
            · rw [E] at o'
              exact o'.as
          · have e17' : inO W = nI 17 := Classical.not_not.mp e17
            have i17 : inn W = 17 := by
              rcases inn_r W with i0 | i0 | i0
              · unfold inO at e17'
                rw [if_pos i0] at e17'
                exact absurd e17'.symm (nI_m1 (by omega))
              · exact absurd i0 c16
              · exact i0
            exact cl 93 17 false ⟨rfl, by omega, by omega⟩ (Or.inr rfl) i17 (fun n f => om_f.trans ((if_neg nj).trans ((if_neg c16).trans ((if_neg nc).trans ((if_neg (fun y => y s0)).trans ((if_pos i17).trans (if_neg n))))))) (fun n f => om_f.trans ((if_neg nj).trans ((if_neg c16).trans ((if_neg nc).trans ((if_neg (fun y => y s0)).trans ((if_pos i17).trans (if_pos n))))))) _ (fun v S' hq hS' hn => b_TR_readsSign_83 hS' ⟨hn, hq⟩)
        · have sb : sw (tkW b e p) = 12 ∨ sw (tkW b e p) = 13 := by
            rcases sw_r s0 with ⟨-, e1, -⟩ | ⟨-, e1, -⟩
            · exact Or.inl e1
            · exact Or.inr e1
          have eN : nI 12 + nI (sw (tkW b e p) - 12) = nI (sw (tkW b e p)) := by
            rw [nI_add, show 12 + (sw (tkW b e p) - 12) = sw (tkW b e p) by omega]
          have lt : p < tkE b e p := by
            have := swLt (b := b) hp s0
            omega
          rw [if_neg s0, eN]
          exact ⟨fun h9 => absurd h9 (nE1 (by omega)), fun _ => jn (sw (tkW b e p)) true cp (by omega) zTj.rf ht hf hw ho rfl rfl lt (hi.join lt (Or.inr ⟨c16, Or.inr sb⟩)) (fun f => om_f.trans ((if_neg nj).trans ((if_neg c16).trans ((if_neg nc).trans (if_pos s0))))) _ (fun v S' hq hS' hn => b_TR_readsSign_74 hS' ⟨hn, hq⟩)⟩
      refine ⟨fun _ => ⟨fun b8 => K62 (fun y => by rw [hf.b8.mp b8] at y; cases y.1), fun b8 => ⟨fun b9 => K62 (fun y => b9 (hf.b9.mpr y.2)), fun b9 => ?_⟩⟩, fun h9 => absurd ns h9⟩
      have hev : ev = true := by
        cases hv : ev with
        | true => rfl
        | false => exact absurd (hf.b8.mpr hv) b8
      have hcp : cp = false := hf.b9.mp (Classical.not_not.mp b9)
      refine w_Ta_signAmong rfl hS hC hx hp ht (b_TR_readsSign_41 hS ⟨by decide, ?_⟩)
      rw [sx17]
      have j1 : zJ [86, 87, 88, 89] S (zsI S 86 9 (nI 1)) := zJ.rf.I rfl
      have e76 : zI (zsI S 86 9 (nI 1)) 76 = zI S 76 := zI_ne _ _ (by omega)
      by_cases s0 : sc (hr b e p) = 0
      · rw [if_pos s0]
        refine ⟨fun h9 => absurd rfl h9, fun _ => w_Ta_refuse (j1.sh hS) ?_⟩
        rw [e76, ht.1]
        exact b_TR_readsSign_51 (sh76 (j1.sh hS)) ⟨by decide, bad 1 _ (fun f => om_f.trans ((if_neg nj).trans ((if_neg c16).trans ((if_pos ⟨hev, hcp⟩).trans (if_neg (fun y => y s0)))))) _ j1.j.bad (by rw [zI_o (by omega), zI_s]) zI_s⟩
      · obtain ⟨sb, sr⟩ := sc_b s0
        have eN : nI 9 + nI (sc (hr b e p) - 9) = nI (sc (hr b e p)) := by
          rw [nI_add, show 9 + (sc (hr b e p) - 9) = sc (hr b e p) by omega]
        have lt : p < tkE b e p := by
          have := scLt (b := b) hp s0
          omega
        rw [if_neg s0, eN]
        have iom := hi.join (p' := tkE b e p) (bb' := false) (s := sc (hr b e p)) lt (Or.inr ⟨c16, Or.inl ⟨by omega, rfl⟩⟩)
        refine ⟨fun _ => jn (sc (hr b e p)) false true (by omega) j1.j (ht.c e76) ⟨⟨Eq.trans (zI_o (by omega)) hf.1.1, Eq.trans (zI_o (by omega)) hf.1.2⟩, by rw [zI_o (by omega)]; exact hf.2.1, zI_s⟩ (hw.c (zI_o (by omega)) (zI_o (by omega)) (zI_ne _ _ (by omega))) (ho.c (zI_o (by omega)) (zI_ne _ _ (by omega)) (zI_ne _ _ (by omega))) (by rw [e76]) (zI_o (by omega)) lt iom (fun f => ?_) _ (fun v S' hq hS' hn => b_TR_readsSign_59 hS' ⟨hn, hq⟩), fun h9 => absurd (nE1 (by omega)) h9⟩
        rw [om_f, if_neg nj, if_neg c16, if_pos ⟨hev, hcp⟩, if_pos s0, sr]
        rfl
  refine b_TR_readsSign hS ⟨fun b8 => ⟨fun _ => K21 _ (fun y => by rw [hf.b8.mp b8] at y; cases y.1), fun h9 => absurd rfl h9⟩, fun b8 => w_Ta_signAmong rfl hS hC hx hp ht (b_TR_readsSign_6 hS ?_)⟩
  rw [sx15]
  by_cases s0 : sj (hr b e p) = 0
  · rw [if_pos s0]
    exact ⟨fun _ => K21 _ (fun y => y.2 s0), fun h9 => absurd rfl h9⟩
  · have hev : ev = true := by
      cases hv : ev with
      | true => rfl
      | false => exact absurd (hf.b8.mpr hv) b8
    have sb := sj_b s0
    have eN : nI 5 + nI (sj (hr b e p) - 5) = nI (sj (hr b e p)) := by
      rw [nI_add, show 5 + (sj (hr b e p) - 5) = sj (hr b e p) by omega]
    have lt : p < tkE b e p := by
      have := sjLt (b := b) hp s0
      omega
    rw [if_neg s0, eN]
    exact ⟨fun h9 => absurd h9 (nE1 (by omega)), fun _ => jn (sj (hr b e p)) false cp (by omega) zTj.rf ht hf hw ho rfl rfl lt (hi.join lt (Or.inl ⟨by omega, rfl⟩)) (fun f => om_f.trans (if_pos ⟨hev, s0⟩)) _ (fun v S' hq hS' hn => b_TR_readsSign_19 hS' ⟨hn, hq⟩)⟩
