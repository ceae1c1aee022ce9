/-! Texts -/
theorem zSTR_at {own x k : Nat} (h : zSTR.any (fun q => (q.1, q.2.1, q.2.2.1) == (own, x, k)) = true) : ∃ tx : String, (own, x, k, tx) ∈ zSTR := by
  obtain ⟨⟨a1, a2, a3, tx⟩, hq, he⟩ := List.any_eq_true.mp h
  have he : (a1, a2, a3) = (own, x, k) := by simpa using he
  cases he
  exact ⟨tx, hq⟩
theorem zSTR_all : zSTR.all (fun q => Nat.blt q.2.2.1 75) = true := by decide +kernel
theorem zSTR_lt (q : Nat × Nat × Nat × String) (hq : q ∈ zSTR) : q.2.2.1 < 75 := Nat.le_of_ble_eq_true (List.all_eq_true.mp zSTR_all q hq)
set_option maxHeartbeats 40000 in
theorem zSTR_A {own x k0 : Nat} (hw : zSTR.any (fun q => (q.1, q.2.1, q.2.2.1) == (own, x, k0)) = true) : ∃ tx : String, (own, x, k0, tx) ∈ zSTR := zSTR_at hw
set_option maxHeartbeats 40000 in
theorem zSTR_B {cad : Nat → Nat} {s : State} (hKw : zKw cad s) : ∀ q ∈ zSTR, vk_R (zcn q.1) q.2.1 q.2.2.2 (cad q.2.2.1) s := hKw.1
set_option maxHeartbeats 40000 in
theorem zSTR_C {own x k0 : Nat} {cad : Nat → Nat} {s : State} {tx : String} (hKw : ∀ q ∈ zSTR, vk_R (zcn q.1) q.2.1 q.2.2.2 (cad q.2.2.1) s) (hq : (own, x, k0, tx) ∈ zSTR) : vk_R (zcn own) x tx (cad k0) s := hKw (own, x, k0, tx) hq
set_option maxHeartbeats 40000 in
theorem zSTR_D {own x k0 : Nat} {tx : String} (hq : (own, x, k0, tx) ∈ zSTR) : k0 < 75 := zSTR_lt (own, x, k0, tx) hq
set_option maxHeartbeats 40000 in
theorem zSTR_R {own x k0 : Nat} {cad : Nat → Nat} {s : State} (hKw : zKw cad s) (hw : zSTR.any (fun q => (q.1, q.2.1, q.2.2.1) == (own, x, k0)) = true) : k0 < 75 ∧ ∃ tx : String, vk_R (zcn own) x tx (cad k0) s := by
  have h := zSTR_A hw
  have h2 := zSTR_B hKw
  clear hw hKw
  obtain ⟨tx, hq⟩ := h
  exact ⟨zSTR_D hq, tx, zSTR_C h2 hq⟩
section ZText
variable {p : Program} {l : Launch} {e : Env} {R : Room} {s : State} {m : MethodId} {args : Array Value} {below : List Frame} {meth : Method} {c : Code} {Q : State → Prop} {M : ZMt} {cad : Nat → Nat} {tc : Nat → ClassId} {D : va_G} {S0 : ZSt} {A : Nat → Prop} {ws0 : va_W} {c0 z0 : Nat}
variable {i pc : Nat} {ls : ZLo} {st : List Value} {S : ZSt}
theorem zs_ldcS {x k0 : Nat} (C : zCx p l R s m args meth c M cad S0 A) (hp : zpcOf M i = pc) (hd : decode (zmCode M) pc = .ok (.ldc x, 2)) (hn : zpcOf M (i + 1) = pc + 2) (hlt : k0 < 75) (hw : ∃ tx : String, vk_R (zcn (zmOwn M)) x tx (cad k0) s) (k : zGo p l e R s m args below meth c Q M cad tc D S0 A ws0 c0 z0 (i + 1) ls (.ref k0 :: st) S) : zGo p l e R s m args below meth c Q M cad tc D S0 A ws0 c0 z0 i ls st S := by
  obtain ⟨hx, hb, hml, hown, hts, -⟩ := C
  obtain ⟨tx, hR9⟩ := hw
  intro ws H locs ar sr hW hL hl hS hc hz
  rw [hp]
  refine va_ldcS hx hb hown hR9 hd ?_
  have := k ws H locs ar (.ref (cad k0) :: sr) hW hL hl ⟨⟨cad k0, rfl, Or.inl ⟨hlt, rfl⟩⟩, hS⟩ hc hz
  rwa [hn] at this
theorem zs_ldcSW {x k0 : Nat} (C : zCx p l R s m args meth c M cad S0 A) (hp : zpcOf M i = pc) (hd : decode (zmCode M) pc = .ok (.ldc_w x, 3)) (hn : zpcOf M (i + 1) = pc + 3) (hlt : k0 < 75) (hw : ∃ tx : String, vk_R (zcn (zmOwn M)) x tx (cad k0) s) (k : zGo p l e R s m args below meth c Q M cad tc D S0 A ws0 c0 z0 (i + 1) ls (.ref k0 :: st) S) : zGo p l e R s m args below meth c Q M cad tc D S0 A ws0 c0 z0 i ls st S := by
  obtain ⟨hx, hb, hml, hown, hts, -⟩ := C
  obtain ⟨tx, hR9⟩ := hw
  intro ws H locs ar sr hW hL hl hS hc hz
  rw [hp]
  have hk := k ws H locs ar (.ref (cad k0) :: sr) hW hL hl ⟨⟨cad k0, rfl, Or.inl ⟨hlt, rfl⟩⟩, hS⟩ hc hz
  rw [hn] at hk
  intro T hT X
  obtain ⟨t, a1, b1⟩ := hk T hT X
  exact ⟨t, X.ldcStringW hx hown (text := tx) (a := cad k0) hR9.1 hR9.2 (g := F0 m pc ar sr) rfl (by rw [hb]; exact hd) t a1, b1⟩
end ZText
