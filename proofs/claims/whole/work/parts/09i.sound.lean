/-! A run of the little machine is one of the JVM's -/
theorem zRuns_back {n d : Nat} {M : ZMt} {pc i : Nat} {ls : ZLo} {rest : List Value} {o o1 : ZOut} {S1 S' : ZSt} (h6 : zback M pc i ls rest (fun i1 l1 s1 S2 => zRuns n d M i1 l1 s1 S2 o S') (fun x S2 => o = .inr x ∧ S' = S2) o1 S1) : zu S1 ≤ zu S' ∧ zz S1 ≤ zz S' := by
  unfold zback at h6
  split at h6
  · exact zRuns_u n h6
  · exact zRuns_u n h6
  · split at h6
    · exact zRuns_u n h6
    · split at h6
      · obtain ⟨-, rfl⟩ := h6
        exact zle _
      · exact h6.elim
theorem zthr_chk {M : ZMt} {i pc len x k : Nat} (hG : zGood M) (hck : zchk M i (pc, .new x, len, [k]) = true) : len = 3 ∧ zcl? (zmOwn M) x (1000 + k) = true ∧ k < 4 ∧ zmOwn M = 11 ∧ zmTab M = [] ∧ ∃ y, (k, y) ∈ zthl ∧ decode (zmCode M) (pc + 3) = .ok (.dup, 1) ∧ decode (zmCode M) (pc + 4) = .ok (.invokespecial y, 3) ∧ decode (zmCode M) (pc + 7) = .ok (.athrow, 1) := by
  have hck9 : (Nat.beq len 3 && (zcl? (zmOwn M) x (1000 + k) && (Nat.blt k 4 && (Nat.beq (zmOwn M) 11 && (List.isEmpty (zmTab M) && (match (generalizing := false) zop M (i + 1), zop M (i + 2), zop M (i + 3) with
          | some (p1, .dup, 1, _), some (p2, .invokespecial y, 3, _), some (p3, .athrow, 1, _) => Nat.beq p1 (pc + 3) && (Nat.beq p2 (pc + 4) && (Nat.beq p3 (pc + 7) && [(0, 391), (1, 394), (2, 397), (3, 400)].any (fun q => q == (k, y))))
          | _, _, _ => false)))))) = true := hck
  obtain ⟨h1, c2⟩ := zand hck9
  obtain ⟨h2, c3⟩ := zand c2
  obtain ⟨h3, c4⟩ := zand c3
  obtain ⟨h4, c5⟩ := zand c4
  obtain ⟨h5, h6⟩ := zand c5
  refine ⟨Nat.eq_of_beq_eq_true h1, h2, Nat.le_of_ble_eq_true h3, Nat.eq_of_beq_eq_true h4, List.isEmpty_iff.mp h5, ?_⟩
  split at h6
  · rename_i p1 r1 p2 y r2 p3 r3 e1 e2 e3
    obtain ⟨b1, c6⟩ := zand h6
    obtain ⟨b2, c7⟩ := zand c6
    obtain ⟨b3, b4⟩ := zand c7
    have d1 := hG.2 _ _ _ _ _ e1
    have d2 := hG.2 _ _ _ _ _ e2
    have d3 := hG.2 _ _ _ _ _ e3
    rw [Nat.eq_of_beq_eq_true b1] at d1
    rw [Nat.eq_of_beq_eq_true b2] at d2
    rw [Nat.eq_of_beq_eq_true b3] at d3
    obtain ⟨q, hq, he⟩ := List.any_eq_true.mp b4
    have he : q = (k, y) := by simpa using he
    subst he
    exact ⟨y, hq, d1, d2, d3⟩
  · cases h6
theorem zsound {l : Launch} (hdec : ∀ k, zDec (zP k)) (htr : l.stackTraces = false) : ∀ (n : Nat) {d : Nat} {M : ZMt} {i : Nat} {ls : ZLo} {st : List Value} {S : ZSt} {o : ZOut} {S' : ZSt}, zRuns n d M i ls st S o S' → zGood M →
    ∀ {p : Program} {e : Env} {R : Room} {s : State} {m : MethodId} {args : Array Value} {below : List Frame} {meth : Method} {c : Code} {cad : Nat → Nat} {tc : Nat → ClassId} {D : va_G} {S0 : ZSt} {A : Nat → Prop} {ws0 : va_W} {c0 z0 : Nat}, zCx p l R s m args meth c M cad S0 A → d + 20 ≤ R.frames → 120 * d + 300 ≤ R.locals → zu S' - c0 ≤ R.cells → zz S' - z0 ≤ R.slots →
    zGo p l e R s m args below meth c (vx_MQ below (zQc cad tc D S0 A ws0 o S') (zXC cad tc D S0 A ws0 o S') args s (zu S' - c0) (zz S' - z0) A) M cad tc D S0 A ws0 c0 z0 i ls st S
  | 0, _, _, _, _, _, _, _, _, h, _, _, _, _, _, _, _, _, _, _, _, _, _, _, _, _, _, _, _, _, _, _, _ => h.elim
  | n + 1, d, M, i, ls, st, S, o, S', h, hG, p, e, R, s, m, args, below, meth, c, cad, tc, D, S0, A, ws0, c0, z0, C, hRf, hRl, hcell, hslot => by
    rw [zRuns] at h
    split at h
    · exact h.elim
    · rename_i pc ins len r hop
      have hd := hG.2 i pc len ins r hop
      have hck := zchk_at hG.1 hop
      split at h
      · exact zt_all C hop hd hck h (fun i1 l1 s1 S1 h1 => by
          have hu := zRuns_u n h1
          exact ⟨by omega, by omega, zsound hdec htr n h1 hG C hRf hRl hcell hslot⟩)
      · rename_i hk
        split at h
        · obtain ⟨h0, h1, h2, h3, h4, o1, S1, h5, h6⟩ := h
          have hu := zRuns_u n h5
          have hu2 := zRuns_back h6
          exact zs_call C hG.1 hop hd hck hk h1 h2 h3 h4 h0 hRf hRl (by omega) (by omega) hu
            (fun ws p e s m args below meth c C9 => zsound hdec htr n h5 ⟨(zP_ev _).2.1, hdec _⟩ C9 (Nat.le_refl _) (Nat.le_refl _) (Nat.le_refl _) (Nat.le_refl _))
            (zback_mono h6 (fun i1 l1 s1 S2 h7 => zsound hdec htr n h7 hG C hRf hRl hcell hslot) (fun _ _ h7 => h7))
        · exact h.elim
      · obtain ⟨h1, rfl⟩ := h
        exact zs_ret C hop hd hck h1
      · rename_i hk
        split at h
        · rename_i x
          obtain ⟨rfl, rfl⟩ := h
          cases ins with
          | new x0 =>
            obtain ⟨rfl, g1, g2, g3, g4, y, g5, g6, g7, g8⟩ := zthr_chk hG hck
            have hp : zpcOf M i = pc := by
              unfold zpcOf
              rw [hop]
            exact zs_throw C hp hd g6 g7 g8 g5 g2 g3 g4 g1 hcell hslot
          | invokevirtual x0 => cases hk
          | invokestatic x0 => cases hk
          | invokespecial x0 => cases hk
          | _ => cases hk
        · exact h.elim
      · exact h.elim
