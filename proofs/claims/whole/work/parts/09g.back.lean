/-! Behind a call: what came back -/
theorem zCL_ne : zCL.all (fun q => Nat.blt 0 q.2.2.1) = true := by decide +kernel
theorem zcl_ne0 {own x k : Nat} (h : zcl? own x k = true) : x ≠ 0 := by
  obtain ⟨⟨j, q⟩, hq, he⟩ := List.any_eq_true.mp h
  have he : q = (own, x, k) := by simpa using he
  subst he
  have h9 : 0 < x := Nat.le_of_ble_eq_true (List.all_eq_true.mp zCL_ne _ hq)
  omega
theorem zcl_exn {own x k : Nat} (h : zcl? own x (1000 + k) = true) (hk : k < 4) : Cond.classLink (zcn own) x (zexn.getD k "") ∈ zTB := by
  have := zcl_spec h
  rwa [show zclnm (1000 + k) = zexn.getD k "" by unfold zclnm; rw [if_neg (by omega), if_pos (by omega), show 1000 + k - 1000 = k by omega]] at this
theorem zhan_spec {M : ZMt} {pc x h : Nat} : ∀ {hs ts : List (Nat × Nat × Nat × Nat)}, zchkH M hs ts = true → zhan hs pc x = some h → ∃ (pre : List (Nat × Nat × Nat × Nat)) (q : Nat × Nat × Nat × Nat) (suf : List (Nat × Nat × Nat × Nat)), ts = pre ++ q :: suf ∧ (q.1 ≤ pc ∧ pc < q.2.1) ∧ q.2.2.1 = zpcOf M h ∧ zcl? (zmOwn M) q.2.2.2 (1000 + x) = true ∧ x < 4 ∧
    ∀ z ∈ pre, ¬ (z.1 ≤ pc ∧ pc < z.2.1) ∨ ∃ y, y < 4 ∧ y ≠ x ∧ zcl? (zmOwn M) z.2.2.2 (1000 + y) = true
  | [], _, _, hh => by cases hh
  | _ :: _, [], hc, _ => by cases hc
  | (f, t, g, y) :: hs, (f', t', g', w) :: ts, hc, hh => by
    have hc : (Nat.beq f f' && (Nat.beq t t' && ((match (generalizing := false) zop M g with
      | some o => Nat.beq o.1 g'
      | none => false) && (zcl? (zmOwn M) w (1000 + y) && (Nat.blt y 4 && zchkH M hs ts))))) = true := hc
    obtain ⟨h1, c2⟩ := zand hc
    obtain ⟨h2, c3⟩ := zand c2
    obtain ⟨h3, c4⟩ := zand c3
    obtain ⟨h4, c5⟩ := zand c4
    obtain ⟨h5, h6⟩ := zand c5
    have e1 := Nat.eq_of_beq_eq_true h1
    have e2 := Nat.eq_of_beq_eq_true h2
    have hy : y < 4 := Nat.le_of_ble_eq_true h5
    have hh : (if f ≤ pc ∧ pc < t ∧ x = y then some g else zhan hs pc x) = some h := hh
    split at hh
    · rename_i hcond
      cases hh
      obtain ⟨b1, b2, b3⟩ := hcond
      subst b3
      refine ⟨[], (f', t', g', w), ts, rfl, ⟨by rw [← e1]; exact b1, by rw [← e2]; exact b2⟩, ?_, h4, hy, fun z hz => nomatch hz⟩
      unfold zpcOf
      split at h3
      · rename_i o9 ho9
        rw [ho9]
        exact (Nat.eq_of_beq_eq_true h3).symm
      · cases h3
    · rename_i hcond
      obtain ⟨pre, q, suf, r1, r2, r3, r4, r5, r6⟩ := zhan_spec h6 hh
      refine ⟨(f', t', g', w) :: pre, q, suf, by rw [r1]; rfl, r2, r3, r4, r5, fun z hz => ?_⟩
      rcases List.mem_cons.mp hz with rfl | hz
      · by_cases hcov : f ≤ pc ∧ pc < t
        · exact Or.inr ⟨y, hy, fun e => hcond ⟨hcov.1, hcov.2, e.symm⟩, h4⟩
        · left
          show ¬ (f' ≤ pc ∧ pc < t')
          rw [← e1, ← e2]
          exact hcov
      · exact r6 z hz
theorem zchkH_nil {M : ZMt} {ts : List (Nat × Nat × Nat × Nat)} (h : zchkH M [] ts = true) : ts = [] := by
  cases ts with
  | nil => rfl
  | cons a b => cases h
section ZBack
variable {p : Program} {l : Launch} {e : Env} {R : Room} {s : State} {m : MethodId} {args : Array Value} {below : List Frame} {meth : Method} {c : Code} {M : ZMt} {cad : Nat → Nat} {tc : Nat → ClassId} {D : va_G} {S0 : ZSt} {A : Nat → Prop} {ws0 ws : va_W} {c0 z0 : Nat}
variable {i pc : Nat} {ls : ZLo} {rst : List Value} {S S1 S' : ZSt} {o o1 : ZOut} {T : State} {H : Heap} {locs : List Loc} {ar : Array Slot} {sr rest : List Value} {a : Array Value}
theorem zs_back (C : zCx p l R s m args meth c M cad S0 A) (hck : zchkM M = true) (hn : zpcOf M (i + 1) = pc + 3) (hW : zWd cad tc D S0 A s ws0 ws H locs S) (hL : zLR cad ws ls ar) (hl : ls.length = zmMaxL M) (hS : zSR cad ws rst rest) (hc : c0 ≤ zu S) (hz : z0 ≤ zz S) (hu : zu S ≤ zu S1 ∧ zz S ≤ zz S1) (hT : T.heap = H)
    (came : zCame p l e R s m args below meth c T locs (zu S - c0) (zz S - z0) (PostOf (zQc cad tc D S0 A ws o1 S1) (zu S1 - zu S) (zz S1 - zz S) A) (vx_Post (zXC cad tc D S0 A ws o1 S1) (zu S1 - zu S) (zz S1 - zz S) A) a (F0 m pc ar sr) rest)
    (hb : zback M pc i ls rst (fun i1 l1 s1 S2 => zGo p l e R s m args below meth c (vx_MQ below (zQc cad tc D S0 A ws0 o S') (zXC cad tc D S0 A ws0 o S') args s (zu S' - c0) (zz S' - z0) A) M cad tc D S0 A ws0 c0 z0 i1 l1 s1 S2) (fun x S2 => o = .inr x ∧ S' = S2) o1 S1) :
    ∃ t, Steps p.tables e below (T.setTop (F0 m pc ar sr)) t ∧ vx_MQ below (zQc cad tc D S0 A ws0 o S') (zXC cad tc D S0 A ws0 o S') args s (zu S' - c0) (zz S' - z0) A t := by
  obtain ⟨hx, hb9, hml, hown, hts, hlk, hrt, hin, htr, hA, hKc, hKw, htab, hRf, hRl⟩ := C
  obtain ⟨hK, hP, hD, hSS, hR, hKn, hX⟩ := hW
  have comb : ∀ (st t : State) (L : List Loc), st.heap = H → va_F A st t → (∀ q ∈ L, A q.base) → va_S A s.heap t.heap (locs ++ L) := fun st t L hst hF hL9 =>
    ⟨Nat.le_trans hSS.1 (by rw [← hst]; exact hF.1), fun q h1 h2 => (hF.2 q (by rw [hst]; exact Nat.lt_of_lt_of_le h1 hSS.1) h2).trans (by rw [hst]; exact hSS.2.1 q h1 h2), fun z hz9 => (List.mem_append.mp hz9).elim (hSS.2.2 z) (hL9 z)⟩
  have hcc : zu S - c0 + (zu S1 - zu S) = zu S1 - c0 := by omega
  have hzz : zz S - z0 + (zz S1 - zz S) = zz S1 - z0 := by omega
  have hc1 : c0 ≤ zu S1 := by omega
  have hz1 : z0 ≤ zz S1 := by omega
  rcases came with ⟨v, vm1, ⟨U', l2, c2, s2⟩, hW1, X', ⟨g', mk, t, L, e1, e2, hq, h1, hL9, h2, h3⟩, st⟩ | ⟨q, vm1, ⟨U', l2, c2, s2⟩, hW1, X', ⟨g', mk, t, L, E, ce, e1, e2, hq, hce, hcv, hcl, h1, hL9, h2, h3⟩, st⟩
  · dsimp only [Pt.U, Pt.locs, Pt.cells, Pt.slots] at X' e1 e2 h1 h2 h3 st
    subst h1; subst h2; subst h3
    obtain ⟨V, ws', hV, hres, hP', hD', hR', hKn', hX', hF⟩ := hq
    cases hV
    have hS9 := comb _ t L hT hF hL9
    rw [hcc, hzz] at X'
    have hWd : zWd cad tc D S0 A s ws0 ws' t.heap (locs ++ L) S1 := ⟨hK, hP', hD', hS9, hR', hKn', hX.tr hX'⟩
    unfold zback at hb
    split at hb
    · cases hres
      have h9 := hb ws' t.heap (locs ++ L) ar rest hWd (hL.ext hX') hl (hS.ext hX') hc1 hz1
      rw [hn] at h9
      obtain ⟨t2, a1, b1⟩ := h9 U' e1 X'
      exact ⟨t2, st t2 a1, b1⟩
    · obtain ⟨V', rfl, hV'⟩ := hres
      have h9 := hb ws' t.heap (locs ++ L) ar (V' :: rest) hWd (hL.ext hX') hl ⟨hV', hS.ext hX'⟩ hc1 hz1
      rw [hn] at h9
      obtain ⟨t2, a1, b1⟩ := h9 U' e1 X'
      exact ⟨t2, st t2 a1, b1⟩
    · exact hres.elim
  · dsimp only [Pt.U, Pt.locs, Pt.cells, Pt.slots] at X' e1 e2 h1 h2 h3 st hcl
    subst h1; subst h2; subst h3
    obtain ⟨ws', x, ho1, hx4, hE, hP', hD', hR', hKn', hX', hF⟩ := hq
    subst ho1
    have hcl9 : s.vm.findClass E = some ce.cls := vx_cls hW1 hcl
    have hS9 := comb _ t L hT hF hL9
    rw [hcc, hzz] at X'
    have hWd : zWd cad tc D S0 A s ws0 ws' t.heap (locs ++ L) S1 := ⟨hK, hP', hD', hS9, hR', hKn', hX.tr hX'⟩
    have key : vx_W p l e R s m args below meth c t.heap (locs ++ L) (zu S1 - c0) (zz S1 - z0) (vx_MQ below (zQc cad tc D S0 A ws0 o S') (zXC cad tc D S0 A ws0 o S') args s (zu S' - c0) (zz S' - z0) A) (F0 m pc ar rest) q := by
      unfold zback at hb
      dsimp only at hb
      split at hb
      · rename_i h hh
        obtain ⟨pre, z, suf, hsp, hcov, hpc, hzc, hx9, hpre⟩ := zhan_spec (zchkM_parts hck).1 hh
        have h9 := hb ws' t.heap (locs ++ L) ar [.ref q] hWd (hL.ext hX') hl ⟨Or.inr ⟨q, rfl⟩, trivial⟩ hc1 hz1
        rw [← hpc] at h9
        refine vx_catch (own := zcn (zmOwn M)) (name := zexn.getD x "") hown (tableOf pre) ⟨z.1, z.2.1, z.2.2.1, z.2.2.2⟩ (tableOf suf) (by rw [htab, hsp]; simp [tableOf]) (fun w hw => ?_) ?_ (zcl_ne0 hzc) (hts _ (zcl_exn hzc hx9)) ?_ hce hcv hcl9 h9
        · obtain ⟨w0, hw0, rfl⟩ := List.mem_map.mp hw
          rcases hpre w0 hw0 with h7 | ⟨y, hy4, hyx, hyc⟩
          · left
            simp only [covers, Bool.and_eq_false_iff, decide_eq_false_iff_not]
            by_cases h8 : w0.1 ≤ pc
            · right; exact fun h6 => h7 ⟨h8, h6⟩
            · left; exact h8
          · right
            refine ⟨zcl_ne0 hyc, zexn.getD y "", hts _ (zcl_exn hyc hy4), ?_⟩
            rw [hE]
            exact hKw.2.2.2.2.2.2.2.1 x y hx9 hy4 (fun e9 => hyx e9.symm)
        · simp only [covers, Bool.and_eq_true, decide_eq_true_eq]
          exact hcov
        · rw [hE]
          exact va_Nw.use rfl (hKw.2.2.2.2.2.2.1 x hx9)
      · split at hb
        · rename_i hm
          obtain ⟨rfl, rfl⟩ := hb
          have hz0 := (zchkM_parts hck).1
          rw [hm] at hz0
          have ht0 := zchkH_nil hz0
          exact vx_out (by rw [htab, ht0]; exact fun z hz => nomatch hz) hlk hce hcv hcl9 (fun t9 ht9 _ => ⟨ws', x, rfl, hx4, hE, by rw [ht9]; exact hP', hD', hR', hKn', hX.tr hX', hS9.F ht9⟩) hS9.2.2 (Nat.le_refl _) (Nat.le_refl _)
        · exact hb.elim
    obtain ⟨t2, a1, b1⟩ := key U' e1 X'
    exact ⟨t2, st.trans a1, b1⟩
end ZBack
