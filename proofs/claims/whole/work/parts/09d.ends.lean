/-! A method's ends -/
section ZEnds
variable {p : Program} {l : Launch} {e : Env} {R : Room} {s : State} {m : MethodId} {args : Array Value} {below : List Frame} {meth : Method} {c : Code} {M : ZMt} {cad : Nat → Nat} {tc : Nat → ClassId} {D : va_G} {S0 : ZSt} {A : Nat → Prop} {ws0 : va_W} {c0 z0 : Nat}
variable {i pc len : Nat} {r : List Nat} {ls : ZLo} {st : List Value} {S : ZSt} {o : ZOut}
theorem zs_ret {ins : Instr} (C : zCx p l R s m args meth c M cad S0 A) (hop : zop M i = some (pc, ins, len, r)) (hd : decode (zmCode M) pc = .ok (ins, len)) (hck : zchk M i (pc, ins, len, r) = true) (hr : zret M ins st o) :
    zGo p l e R s m args below meth c (vx_MQ below (zQc cad tc D S0 A ws0 o S) (zXC cad tc D S0 A ws0 o S) args s (zu S - c0) (zz S - z0) A) M cad tc D S0 A ws0 c0 z0 i ls st S := by
  obtain ⟨hx, hb, hml, hown, hts, hlk, hrt, hin, htr, hA, hKc, hKw, htab, hRf, hRl⟩ := C
  have hp : zpcOf M i = pc := by
    unfold zpcOf
    rw [hop]
  intro ws H locs ar sr hW hL hl hS hc hz
  obtain ⟨hK, hP, hD, hSS, hR, hKn, hX⟩ := hW
  rw [hp]
  have fin : ∀ (V : Option Value), zRes cad ws o V → ∀ t : State, t.heap = H → s.WarmedH t.vm → zQc cad tc D S0 A ws0 o S args s (.returned V) t := fun V hV t ht _ =>
    ⟨V, ws, rfl, hV, by rw [ht]; exact hP, hD, hR, hKn, hX, by rw [ht]; exact hSS.1, fun q g1 g2 => by rw [ht]; exact hSS.2.1 q g1 g2⟩
  refine vx_ret ?_
  unfold zret at hr
  split at hr
  · obtain ⟨⟨ty, h1, h2⟩, rfl⟩ := hr
    have hlen : len = 1 := Nat.eq_of_beq_eq_true (zand hck).1
    subst hlen
    obtain ⟨V, sr1, rfl, h8, hS1⟩ := hS.cons
    cases h8
    cases hS1.nil
    exact W.zret hx hb (by rw [hrt]; exact h1) h2 (fin _ ⟨_, rfl, rfl⟩) hSS.2.2 hd hlk
  · subst hr
    have h0 : (Nat.beq len 1 && (match (generalizing := false) zmRet M with
      | some .long => true
      | _ => false)) = true := hck
    have hlen : len = 1 := Nat.eq_of_beq_eq_true (zand h0).1
    have h9 := (zand h0).2
    clear h0
    subst hlen
    obtain ⟨V, sr1, rfl, h8, hS1⟩ := hS.cons
    cases h8
    cases hS1.nil
    split at h9
    · rename_i h10
      exact W.lret hx hb (by rw [hrt]; exact h10) (fin _ ⟨_, rfl, rfl⟩) hSS.2.2 hd hlk
    · cases h9
  · subst hr
    have h0 : (Nat.beq len 1 && (match (generalizing := false) zmRet M with
      | some (.object _) => true
      | some (.array _) => true
      | _ => false)) = true := hck
    have hlen : len = 1 := Nat.eq_of_beq_eq_true (zand h0).1
    have h9 := (zand h0).2
    clear h0
    subst hlen
    obtain ⟨V, sr1, rfl, ⟨q, rfl, hq⟩, hS1⟩ := hS.cons
    cases hS1.nil
    split at h9
    · rename_i h10
      exact W.aret hx hb (by rw [hrt]; exact h10) (Or.inl ⟨_, rfl⟩) (Or.inr ⟨_, rfl⟩) (fin _ ⟨_, rfl, ⟨_, rfl, hq⟩⟩) hSS.2.2 hd hlk
    · rename_i h10
      exact W.aret hx hb (by rw [hrt]; exact h10) (Or.inr ⟨_, rfl⟩) (Or.inr ⟨_, rfl⟩) (fin _ ⟨_, rfl, ⟨_, rfl, hq⟩⟩) hSS.2.2 hd hlk
    · cases h9
  · subst hr
    have h0 : (Nat.beq len 1 && (match (generalizing := false) zmRet M with
      | none => true
      | _ => false)) = true := hck
    have hlen : len = 1 := Nat.eq_of_beq_eq_true (zand h0).1
    have h9 := (zand h0).2
    clear h0
    subst hlen
    cases hS.nil
    split at h9
    · rename_i h10
      exact W.vret hx hb (by rw [hrt]; exact h10) (fin _ rfl) hSS.2.2 hd hlk
    · cases h9
  · exact hr.elim
end ZEnds
