/-! The instructions that read and write the heap -/
theorem zcl_at : ∀ {ci : Nat}, ci < 13 → vwCl[ci]? = some (zcn ci, zT ci, zfn ci)
  | 0, _ => rfl
  | 1, _ => rfl
  | 2, _ => rfl
  | 3, _ => rfl
  | 4, _ => rfl
  | 5, _ => rfl
  | 6, _ => rfl
  | 7, _ => rfl
  | 8, _ => rfl
  | 9, _ => rfl
  | 10, _ => rfl
  | 11, _ => rfl
  | 12, _ => rfl
  | n + 13, h => absurd h (by omega)
theorem zlay_at : ∀ {ci : Nat}, ci < 13 → ∀ w ∈ u_ws (zcn ci) (zT ci) (zfn ci), w ∈ zTB
  | 0, _ => zlay0
  | 1, _ => zlay1
  | 2, _ => zlay2
  | 3, _ => zlay3
  | 4, _ => zlay4
  | 5, _ => zlay5
  | 6, _ => zlay6
  | 7, _ => zlay7
  | 8, _ => zlay8
  | 9, _ => zlay9
  | 10, _ => zlay10
  | 11, _ => zlay11
  | 12, _ => zlay12
  | n + 13, h => absurd h (by omega)
theorem zty_at : ∀ {ci : Nat}, ci < 13 → ∀ k, k < zfn ci → parseFieldDescriptor (zT ci k).2.2.1 = some (zfty ci k)
  | 0, _ => tyX0_ok
  | 1, _ => tyX1_ok
  | 2, _ => tyX2_ok
  | 3, _ => tyX3_ok
  | 4, _ => tyX4_ok
  | 5, _ => tyX5_ok
  | 6, _ => tyX6_ok
  | 7, _ => tyX7_ok
  | 8, _ => tyX8_ok
  | 9, _ => tyX9_ok
  | 10, _ => tyX10_ok
  | 11, _ => tyX11_ok
  | 12, _ => tyX12_ok
  | n + 13, h => absurd h (by omega)
theorem znm_at : ∀ {ci : Nat}, ci < 13 → ∀ a, a < zfn ci → ∀ b, b < zfn ci → a ≠ b → (zT ci a).2.1 ≠ (zT ci b).2.1
  | 0, _ => nmX0
  | 1, _ => nmX1
  | 2, _ => nmX2
  | 3, _ => nmX3
  | 4, _ => nmX4
  | 5, _ => nmX5
  | 6, _ => nmX6
  | 7, _ => nmX7
  | 8, _ => nmX8
  | 9, _ => nmX9
  | 10, _ => nmX10
  | 11, _ => nmX11
  | 12, _ => nmX12
  | n + 13, h => absurd h (by omega)
theorem zin_at : ∀ {ci : Nat}, ci < 13 → Cond.instantiable (zcn ci) (zfn ci) ∈ zTB ∧ Cond.initialized (zcn ci) ∈ zTB
  | 0, _ => (by
    have h := List.all_eq_true.mp zIN_ok _ (List.mem_of_getElem? (i := 0) rfl)
    simp only [Bool.and_eq_true] at h
    exact ⟨zhas_in h.1, zhas_in h.2⟩)
  | 1, _ => (by
    have h := List.all_eq_true.mp zIN_ok _ (List.mem_of_getElem? (i := 1) rfl)
    simp only [Bool.and_eq_true] at h
    exact ⟨zhas_in h.1, zhas_in h.2⟩)
  | 2, _ => (by
    have h := List.all_eq_true.mp zIN_ok _ (List.mem_of_getElem? (i := 2) rfl)
    simp only [Bool.and_eq_true] at h
    exact ⟨zhas_in h.1, zhas_in h.2⟩)
  | 3, _ => (by
    have h := List.all_eq_true.mp zIN_ok _ (List.mem_of_getElem? (i := 3) rfl)
    simp only [Bool.and_eq_true] at h
    exact ⟨zhas_in h.1, zhas_in h.2⟩)
  | 4, _ => (by
    have h := List.all_eq_true.mp zIN_ok _ (List.mem_of_getElem? (i := 4) rfl)
    simp only [Bool.and_eq_true] at h
    exact ⟨zhas_in h.1, zhas_in h.2⟩)
  | 5, _ => (by
    have h := List.all_eq_true.mp zIN_ok _ (List.mem_of_getElem? (i := 5) rfl)
    simp only [Bool.and_eq_true] at h
    exact ⟨zhas_in h.1, zhas_in h.2⟩)
  | 6, _ => (by
    have h := List.all_eq_true.mp zIN_ok _ (List.mem_of_getElem? (i := 6) rfl)
    simp only [Bool.and_eq_true] at h
    exact ⟨zhas_in h.1, zhas_in h.2⟩)
  | 7, _ => (by
    have h := List.all_eq_true.mp zIN_ok _ (List.mem_of_getElem? (i := 7) rfl)
    simp only [Bool.and_eq_true] at h
    exact ⟨zhas_in h.1, zhas_in h.2⟩)
  | 8, _ => (by
    have h := List.all_eq_true.mp zIN_ok _ (List.mem_of_getElem? (i := 8) rfl)
    simp only [Bool.and_eq_true] at h
    exact ⟨zhas_in h.1, zhas_in h.2⟩)
  | 9, _ => (by
    have h := List.all_eq_true.mp zIN_ok _ (List.mem_of_getElem? (i := 9) rfl)
    simp only [Bool.and_eq_true] at h
    exact ⟨zhas_in h.1, zhas_in h.2⟩)
  | 10, _ => (by
    have h := List.all_eq_true.mp zIN_ok _ (List.mem_of_getElem? (i := 10) rfl)
    simp only [Bool.and_eq_true] at h
    exact ⟨zhas_in h.1, zhas_in h.2⟩)
  | 11, _ => (by
    have h := List.all_eq_true.mp zIN_ok _ (List.mem_of_getElem? (i := 11) rfl)
    simp only [Bool.and_eq_true] at h
    exact ⟨zhas_in h.1, zhas_in h.2⟩)
  | 12, _ => (by
    have h := List.all_eq_true.mp zIN_ok _ (List.mem_of_getElem? (i := 12) rfl)
    simp only [Bool.and_eq_true] at h
    exact ⟨zhas_in h.1, zhas_in h.2⟩)
  | n + 13, h => absurd h (by omega)
theorem zFL_at {own x ci k : Nat} (h : zFL.any (fun q => q.2 == (own, x, ci, k)) = true) : Cond.fieldLink (zcn own) x (zT ci k).1 (zT ci k).2.1 (zT ci k).2.2.1 ∈ zTB := by
  obtain ⟨⟨j, q⟩, hq, he⟩ := List.any_eq_true.mp h
  have he : q = (own, x, ci, k) := by simpa using he
  subst he
  exact zhas_in (List.all_eq_true.mp zFL_ok _ hq)
theorem zGS_at {own x k : Nat} (h : zGS.any (fun q => q.2 == (own, x, k)) = true) : Cond.fieldLink (zcn own) x (zstat.getD k ("", "")).1 (zstat.getD k ("", "")).2 "[I" ∈ zTB := by
  obtain ⟨⟨j, q⟩, hq, he⟩ := List.any_eq_true.mp h
  have he : q = (own, x, k) := by simpa using he
  subst he
  exact zhas_in (List.all_eq_true.mp zGS_ok _ hq)
theorem zcl_spec {own x k : Nat} (h : zcl? own x k = true) : Cond.classLink (zcn own) x (zclnm k) ∈ zTB := by
  obtain ⟨⟨j, q⟩, hq, he⟩ := List.any_eq_true.mp h
  have he : q = (own, x, k) := by simpa using he
  subst he
  exact zhas_in (List.all_eq_true.mp zCL_ok _ hq)
theorem zE.obj {cad : Nat → Nat} {tc : Nat → ClassId} {ws : va_W} {S : ZSt} {k : Nat} {e : va_E} (h : zE cad tc ws S k e) (hk : zc S k < 13) : ∃ fs, e = .inr (zc S k, fs) ∧ fs.length = zfn (zc S k) ∧ ∀ j v, fs[j]? = some v → zFR cad ws S k j (zfty (zc S k) j) v := by
  unfold zE at h
  split at h
  · obtain ⟨-, -, h3⟩ := h
    split at h3
    · omega
    · omega
    · omega
    · exact h3.elim
  · obtain ⟨rfl, h2, h3, h4⟩ := h
    exact ⟨_, rfl, h3, h4⟩
theorem zE.ints {cad : Nat → Nat} {tc : Nat → ClassId} {ws : va_W} {S : ZSt} {k : Nat} {e : va_E} (h : zE cad tc ws S k e) (hk : zc S k = 100 ∨ zc S k = 102) : e = .inl (tc (zc S k), zn S k, .inl (zI S k)) := by
  unfold zE at h
  split at h
  · obtain ⟨rfl, rfl, h3⟩ := h
    split at h3
    · rw [h3.2]
    · omega
    · omega
    · exact h3.elim
  · omega
theorem zE.longs {cad : Nat → Nat} {tc : Nat → ClassId} {ws : va_W} {S : ZSt} {k : Nat} {e : va_E} (h : zE cad tc ws S k e) (hk : zc S k = 101) : e = .inl (tc (zc S k), zn S k, .inr (.inl (zL S k))) := by
  unfold zE at h
  split at h
  · obtain ⟨rfl, rfl, h3⟩ := h
    split at h3
    · omega
    · rw [h3.2]
    · omega
    · exact h3.elim
  · omega
theorem zE.refs {cad : Nat → Nat} {tc : Nat → ClassId} {ws : va_W} {S : ZSt} {k : Nat} {e : va_E} (h : zE cad tc ws S k e) (hk : zc S k = 113 ∨ zc S k = 115 ∨ zc S k = 119) : ∃ f, e = .inl (tc (zc S k), zn S k, .inr (.inr (.inr (.inr f)))) ∧ ∀ i, i < zn S k → zOR cad ws (zR S k i) (f i) := by
  unfold zE at h
  split at h
  · obtain ⟨rfl, rfl, h3⟩ := h
    split at h3
    · omega
    · omega
    · exact ⟨_, rfl, h3.2⟩
    · exact h3.elim
  · omega
theorem zfk_int {ty : FieldType} (h : zfk ty = 0 ∨ zfk ty = 3) : ty = .int ∨ ty = .boolean := by
  unfold zfk at h
  split at h <;> first
    | omega
    | exact Or.inl rfl
    | exact Or.inr rfl
theorem zfk_long {ty : FieldType} (h : zfk ty = 1) : ty = .long := by
  unfold zfk at h
  split at h <;> first
    | omega
    | rfl
theorem zfk_ref {ty : FieldType} (h : zfk ty = 2) : (∃ n, ty = .object n) ∨ ∃ t, ty = .array t := by
  unfold zfk at h
  split at h <;> first
    | omega
    | exact Or.inl ⟨_, rfl⟩
    | exact Or.inr ⟨_, rfl⟩
theorem zFR_set {cad : Nat → Nat} {ws : va_W} {S S' : ZSt} {k j : Nat} {ty : FieldType} {v : Value} (h : zFR cad ws S k j ty v) (h1 : zI S' k j = zI S k j) (h2 : zL S' k j = zL S k j) (h3 : zR S' k j = zR S k j) : zFR cad ws S' k j ty v := by
  unfold zFR at h ⊢
  simpa only [h1, h2, h3] using h
section ZHeap
variable {p : Program} {l : Launch} {e : Env} {R : Room} {s : State} {m : MethodId} {args : Array Value} {below : List Frame} {meth : Method} {c : Code} {Q : State → Prop} {M : ZMt} {cad : Nat → Nat} {tc : Nat → ClassId} {D : va_G} {S0 : ZSt} {A : Nat → Prop} {ws0 : va_W} {c0 z0 : Nat}
variable {i pc : Nat} {ls : ZLo} {st : List Value} {S : ZSt}
theorem zs_getI {x ci k0 a : Nat} (C : zCx p l R s m args meth c M cad S0 A) (hp : zpcOf M i = pc) (hd : decode (zmCode M) pc = .ok (.getfield x, 3)) (hn : zpcOf M (i + 1) = pc + 3) (hci : ci < 13) (hk0 : k0 < zfn ci) (hw : zFL.any (fun q => q.2 == (zmOwn M, x, ci, k0)) = true) (hk9 : zfk (zfty ci k0) = 0 ∨ zfk (zfty ci k0) = 3)
    (ha0 : zc S a = ci) (k : zGo p l e R s m args below meth c Q M cad tc D S0 A ws0 c0 z0 (i + 1) ls (.int (zI S a k0) :: st) S) : zGo p l e R s m args below meth c Q M cad tc D S0 A ws0 c0 z0 i ls (.ref a :: st) S := by
  obtain ⟨hx, hb, hml, hown, hts, hlk, hrt, hin, htr, hA, hKc, hKw, htab, hRf, hRl⟩ := C
  intro ws H locs ar sr hW hL hl hS hc hz
  obtain ⟨V, sr, rfl, ⟨q, rfl, ha⟩, hS1⟩ := hS.cons
  clear hS
  have hW' := hW
  obtain ⟨hK, hP, hD, hSS, hR, hKn, hX⟩ := hW'
  obtain ⟨h75, e9, he, hE⟩ := hW.cell hKc ha (by omega) (by omega) (by omega) (by omega)
  obtain ⟨fs, rfl, hfl, hff⟩ := hE.obj (by omega)
  rw [ha0] at hfl hff he
  have h7 := hff k0 (fs[k0]'(by omega)) (List.getElem?_eq_getElem (by omega))
  have h8 : fs[k0]'(by omega) = .int (zI S a k0) := by rcases zfk_int hk9 with h9 | h9 <;> (rw [h9] at h7; exact h7)
  rw [hp]
  refine va_get hx hb hts (zlay_at hci) hown hK hP (a - 75) he (zcl_at hci) k0 hk0 (hts _ (zFL_at hw)) (fun _ h => h) (v := .int (zI S a k0)) (by rw [← h8]; exact List.getElem?_eq_getElem (by omega)) hd ?_
  have := k ws H locs ar (.int (zI S a k0) :: sr) hW hL hl ⟨rfl, hS1⟩ hc hz
  rwa [hn] at this
theorem zs_getL {x ci k0 a : Nat} (C : zCx p l R s m args meth c M cad S0 A) (hp : zpcOf M i = pc) (hd : decode (zmCode M) pc = .ok (.getfield x, 3)) (hn : zpcOf M (i + 1) = pc + 3) (hci : ci < 13) (hk0 : k0 < zfn ci) (hw : zFL.any (fun q => q.2 == (zmOwn M, x, ci, k0)) = true) (hk9 : zfk (zfty ci k0) = 1)
    (ha0 : zc S a = ci) (k : zGo p l e R s m args below meth c Q M cad tc D S0 A ws0 c0 z0 (i + 1) ls (.long (zL S a k0) :: st) S) : zGo p l e R s m args below meth c Q M cad tc D S0 A ws0 c0 z0 i ls (.ref a :: st) S := by
  obtain ⟨hx, hb, hml, hown, hts, hlk, hrt, hin, htr, hA, hKc, hKw, htab, hRf, hRl⟩ := C
  intro ws H locs ar sr hW hL hl hS hc hz
  obtain ⟨V, sr, rfl, ⟨q, rfl, ha⟩, hS1⟩ := hS.cons
  clear hS
  have hW' := hW
  obtain ⟨hK, hP, hD, hSS, hR, hKn, hX⟩ := hW'
  obtain ⟨h75, e9, he, hE⟩ := hW.cell hKc ha (by omega) (by omega) (by omega) (by omega)
  obtain ⟨fs, rfl, hfl, hff⟩ := hE.obj (by omega)
  rw [ha0] at hfl hff he
  have h7 := hff k0 (fs[k0]'(by omega)) (List.getElem?_eq_getElem (by omega))
  have h8 : fs[k0]'(by omega) = .long (zL S a k0) := by rw [zfk_long hk9] at h7; exact h7
  rw [hp]
  refine va_get hx hb hts (zlay_at hci) hown hK hP (a - 75) he (zcl_at hci) k0 hk0 (hts _ (zFL_at hw)) (fun _ h => h) (v := .long (zL S a k0)) (by rw [← h8]; exact List.getElem?_eq_getElem (by omega)) hd ?_
  have := k ws H locs ar (.long (zL S a k0) :: sr) hW hL hl ⟨rfl, hS1⟩ hc hz
  rwa [hn] at this
theorem zs_getR {x ci k0 a b : Nat} (C : zCx p l R s m args meth c M cad S0 A) (hp : zpcOf M i = pc) (hd : decode (zmCode M) pc = .ok (.getfield x, 3)) (hn : zpcOf M (i + 1) = pc + 3) (hci : ci < 13) (hk0 : k0 < zfn ci) (hw : zFL.any (fun q => q.2 == (zmOwn M, x, ci, k0)) = true) (hk9 : zfk (zfty ci k0) = 2)
    (ha0 : zc S a = ci) (hb0 : zR S a k0 = some b) (k : zGo p l e R s m args below meth c Q M cad tc D S0 A ws0 c0 z0 (i + 1) ls (.ref b :: st) S) : zGo p l e R s m args below meth c Q M cad tc D S0 A ws0 c0 z0 i ls (.ref a :: st) S := by
  obtain ⟨hx, hb, hml, hown, hts, hlk, hrt, hin, htr, hA, hKc, hKw, htab, hRf, hRl⟩ := C
  intro ws H locs ar sr hW hL hl hS hc hz
  obtain ⟨V, sr, rfl, ⟨q, rfl, ha⟩, hS1⟩ := hS.cons
  clear hS
  have hW' := hW
  obtain ⟨hK, hP, hD, hSS, hR, hKn, hX⟩ := hW'
  obtain ⟨h75, e9, he, hE⟩ := hW.cell hKc ha (by omega) (by omega) (by omega) (by omega)
  obtain ⟨fs, rfl, hfl, hff⟩ := hE.obj (by omega)
  rw [ha0] at hfl hff he
  have h7 := hff k0 (fs[k0]'(by omega)) (List.getElem?_eq_getElem (by omega))
  obtain ⟨b', h8, hb'⟩ : ∃ b', fs[k0]'(by omega) = .ref b' ∧ zA cad ws b b' := by
    rcases zfk_ref hk9 with ⟨n, h9⟩ | ⟨n, h9⟩ <;>
    · rw [h9] at h7
      obtain ⟨r, h7, e7⟩ := h7
      rw [hb0] at h7
      cases r with
      | none => exact h7.elim
      | some b' => exact ⟨b', e7, h7⟩
  rw [hp]
  refine va_get hx hb hts (zlay_at hci) hown hK hP (a - 75) he (zcl_at hci) k0 hk0 (hts _ (zFL_at hw)) (fun _ h => h) (v := .ref b') (by rw [← h8]; exact List.getElem?_eq_getElem (by omega)) hd ?_
  have := k ws H locs ar (.ref b' :: sr) hW hL hl ⟨⟨b', rfl, hb'⟩, hS1⟩ hc hz
  rwa [hn] at this
theorem zs_putI {x ci k0 a : Nat} {v : Int32} (C : zCx p l R s m args meth c M cad S0 A) (hp : zpcOf M i = pc) (hd : decode (zmCode M) pc = .ok (.putfield x, 3)) (hn : zpcOf M (i + 1) = pc + 3) (hci : ci < 13) (hk0 : k0 < zfn ci) (hw : zFL.any (fun q => q.2 == (zmOwn M, x, ci, k0)) = true) (hk9 : zfk (zfty ci k0) = 0)
    (hfi : (zT ci k0).2.2.2 = false ∨ (zmKind M = 2 ∧ (zT ci k0).1 = zcn (zmOwn M))) (ha0 : zc S a = ci) (k : zGo p l e R s m args below meth c Q M cad tc D S0 A ws0 c0 z0 (i + 1) ls st (zsI S a k0 v)) : zGo p l e R s m args below meth c Q M cad tc D S0 A ws0 c0 z0 i ls (.int v :: .ref a :: st) S := by
  obtain ⟨hx, hb, hml, hown, hts, hlk, hrt, hin, htr, hA, hKc, hKw, htab, hRf, hRl⟩ := C
  intro ws H locs ar sr hW hL hl hS hc hz
  obtain ⟨V0, sr, rfl, h8, hS0⟩ := hS.cons
  clear hS
  cases h8
  obtain ⟨V, sr, rfl, ⟨q, rfl, ha⟩, hS1⟩ := hS0.cons
  clear hS0
  have hW' := hW
  obtain ⟨hK, hP, hD, hSS, hR, hKn, hX⟩ := hW'
  obtain ⟨h75, e9, he, hE⟩ := hW.cell hKc ha (by omega) (by omega) (by omega) (by omega)
  obtain ⟨fs, rfl, hfl, hff⟩ := hE.obj (by omega)
  rw [ha0] at hfl hff he
  have hnf : narrow (zfty ci k0) (.int v) = .int v ∧ fits (zfty ci k0) (.int v) = true := by
    rcases zfk_int (Or.inl hk9) with h9 | h9
    · rw [h9]; exact ⟨rfl, rfl⟩
    · rw [h9] at hk9; cases hk9
  have hself : zI (zsI S a k0 v) a = upd (zI S a) k0 v := va_up_self _ _ _
  have hrep : zRep cad tc (ws.set (a - 75) (q, .inr (ci, fs.set k0 (.int v)))) (zsI S a k0 v) := by
    refine hR.put he rfl (fun j hj => zwI_o (by omega)) ?_
    rw [show a - 75 + 75 = a by omega]
    refine ⟨ha0.symm, hci, by rw [List.length_set]; exact hfl, fun j w hw9 => ?_⟩
    by_cases hj : k0 = j
    · subst hj
      rw [List.getElem?_set_self (by omega)] at hw9
      cases hw9
      rcases zfk_int (Or.inl hk9) with h9 | h9 <;> (rw [h9]; show Value.int v = .int (zI (zsI S a k0 v) a k0); rw [hself]; simp [upd])
    · rw [List.getElem?_set_ne hj] at hw9
      exact zFR_set ((hff j w hw9).ext (zExt.put he)) (by rw [hself]; simp [upd, Ne.symm hj]) rfl rfl
  have hKn' : zKon (zsI S a k0 v) S0 := hKn.put h75 (fun j hj => zwI_o hj)
  rw [hp]
  have fin : ∀ (H1 : Heap) (locs1 : List Loc), va_P D vwCl (ws.set (a - 75) (q, .inr (ci, fs.set k0 (.int v)))) H1 → va_D A (ws.set (a - 75) (q, .inr (ci, fs.set k0 (.int v)))) → va_S A s.heap H1 locs1 →
      W p l e R s m args below meth c H1 locs1 (zu S - c0) (zz S - z0) Q (F0 m (pc + 3) ar sr) := fun H1 locs1 g1 g2 g3 => by
    have hx9 : zExt ws (ws.set (a - 75) (q, .inr (ci, fs.set k0 (.int v)))) := zExt.put he
    have := k _ H1 locs1 ar sr ⟨hK, g1, g2, g3, hrep, hKn', hX.tr hx9⟩ (hL.ext hx9) hl (hS1.ext hx9) hc hz
    rw [hn] at this
    exact this
  rcases hfi with hfi | ⟨hk2, hfi⟩
  · exact va_put hx hb hts (zlay_at hci) (zfty ci) (zty_at hci) (znm_at hci) hown hK hP hD hSS (a - 75) he (zcl_at hci) k0 hk0 (hts _ (zFL_at hw)) (fun _ h => h) hfi (zty_at hci k0 hk0) hnf.1 hnf.2 (by omega) hd fin
  · by_cases hf9 : (zT ci k0).2.2.2 = false
    · exact va_put hx hb hts (zlay_at hci) (zfty ci) (zty_at hci) (znm_at hci) hown hK hP hD hSS (a - 75) he (zcl_at hci) k0 hk0 (hts _ (zFL_at hw)) (fun _ h => h) hf9 (zty_at hci k0 hk0) hnf.1 hnf.2 (by omega) hd fin
    · exact va_putF hx hb hts (zlay_at hci) (zfty ci) (zty_at hci) (znm_at hci) hown hK hP hD hSS (a - 75) he (zcl_at hci) k0 hk0 (hts _ (zFL_at hw)) (fun _ h => h) (by simpa using hf9) (hin hk2) hfi (zty_at hci k0 hk0) hnf.1 hnf.2 (by omega) hd fin
theorem zs_putZ {x ci k0 a : Nat} {v : Int32} (C : zCx p l R s m args meth c M cad S0 A) (hp : zpcOf M i = pc) (hd : decode (zmCode M) pc = .ok (.putfield x, 3)) (hn : zpcOf M (i + 1) = pc + 3) (hci : ci < 13) (hk0 : k0 < zfn ci) (hw : zFL.any (fun q => q.2 == (zmOwn M, x, ci, k0)) = true) (hk9 : zfk (zfty ci k0) = 3)
    (hfi : (zT ci k0).2.2.2 = false ∨ (zmKind M = 2 ∧ (zT ci k0).1 = zcn (zmOwn M))) (hv9 : v = 0 ∨ v = 1) (ha0 : zc S a = ci) (k : zGo p l e R s m args below meth c Q M cad tc D S0 A ws0 c0 z0 (i + 1) ls st (zsI S a k0 v)) : zGo p l e R s m args below meth c Q M cad tc D S0 A ws0 c0 z0 i ls (.int v :: .ref a :: st) S := by
  obtain ⟨hx, hb, hml, hown, hts, hlk, hrt, hin, htr, hA, hKc, hKw, htab, hRf, hRl⟩ := C
  intro ws H locs ar sr hW hL hl hS hc hz
  obtain ⟨V0, sr, rfl, h8, hS0⟩ := hS.cons
  clear hS
  cases h8
  obtain ⟨V, sr, rfl, ⟨q, rfl, ha⟩, hS1⟩ := hS0.cons
  clear hS0
  have hW' := hW
  obtain ⟨hK, hP, hD, hSS, hR, hKn, hX⟩ := hW'
  obtain ⟨h75, e9, he, hE⟩ := hW.cell hKc ha (by omega) (by omega) (by omega) (by omega)
  obtain ⟨fs, rfl, hfl, hff⟩ := hE.obj (by omega)
  rw [ha0] at hfl hff he
  have hnf : narrow (zfty ci k0) (.int v) = .int v ∧ fits (zfty ci k0) (.int v) = true := by
    rcases zfk_int (Or.inr hk9) with h9 | h9
    · rw [h9] at hk9; cases hk9
    · rw [h9]; rcases hv9 with rfl | rfl <;> exact ⟨rfl, rfl⟩
  have hself : zI (zsI S a k0 v) a = upd (zI S a) k0 v := va_up_self _ _ _
  have hrep : zRep cad tc (ws.set (a - 75) (q, .inr (ci, fs.set k0 (.int v)))) (zsI S a k0 v) := by
    refine hR.put he rfl (fun j hj => zwI_o (by omega)) ?_
    rw [show a - 75 + 75 = a by omega]
    refine ⟨ha0.symm, hci, by rw [List.length_set]; exact hfl, fun j w hw9 => ?_⟩
    by_cases hj : k0 = j
    · subst hj
      rw [List.getElem?_set_self (by omega)] at hw9
      cases hw9
      rcases zfk_int (Or.inr hk9) with h9 | h9 <;> (rw [h9]; show Value.int v = .int (zI (zsI S a k0 v) a k0); rw [hself]; simp [upd])
    · rw [List.getElem?_set_ne hj] at hw9
      exact zFR_set ((hff j w hw9).ext (zExt.put he)) (by rw [hself]; simp [upd, Ne.symm hj]) rfl rfl
  have hKn' : zKon (zsI S a k0 v) S0 := hKn.put h75 (fun j hj => zwI_o hj)
  rw [hp]
  have fin : ∀ (H1 : Heap) (locs1 : List Loc), va_P D vwCl (ws.set (a - 75) (q, .inr (ci, fs.set k0 (.int v)))) H1 → va_D A (ws.set (a - 75) (q, .inr (ci, fs.set k0 (.int v)))) → va_S A s.heap H1 locs1 →
      W p l e R s m args below meth c H1 locs1 (zu S - c0) (zz S - z0) Q (F0 m (pc + 3) ar sr) := fun H1 locs1 g1 g2 g3 => by
    have hx9 : zExt ws (ws.set (a - 75) (q, .inr (ci, fs.set k0 (.int v)))) := zExt.put he
    have := k _ H1 locs1 ar sr ⟨hK, g1, g2, g3, hrep, hKn', hX.tr hx9⟩ (hL.ext hx9) hl (hS1.ext hx9) hc hz
    rw [hn] at this
    exact this
  rcases hfi with hfi | ⟨hk2, hfi⟩
  · exact va_put hx hb hts (zlay_at hci) (zfty ci) (zty_at hci) (znm_at hci) hown hK hP hD hSS (a - 75) he (zcl_at hci) k0 hk0 (hts _ (zFL_at hw)) (fun _ h => h) hfi (zty_at hci k0 hk0) hnf.1 hnf.2 (by omega) hd fin
  · by_cases hf9 : (zT ci k0).2.2.2 = false
    · exact va_put hx hb hts (zlay_at hci) (zfty ci) (zty_at hci) (znm_at hci) hown hK hP hD hSS (a - 75) he (zcl_at hci) k0 hk0 (hts _ (zFL_at hw)) (fun _ h => h) hf9 (zty_at hci k0 hk0) hnf.1 hnf.2 (by omega) hd fin
    · exact va_putF hx hb hts (zlay_at hci) (zfty ci) (zty_at hci) (znm_at hci) hown hK hP hD hSS (a - 75) he (zcl_at hci) k0 hk0 (hts _ (zFL_at hw)) (fun _ h => h) (by simpa using hf9) (hin hk2) hfi (zty_at hci k0 hk0) hnf.1 hnf.2 (by omega) hd fin
theorem zs_putL {x ci k0 a : Nat} {v : Int64} (C : zCx p l R s m args meth c M cad S0 A) (hp : zpcOf M i = pc) (hd : decode (zmCode M) pc = .ok (.putfield x, 3)) (hn : zpcOf M (i + 1) = pc + 3) (hci : ci < 13) (hk0 : k0 < zfn ci) (hw : zFL.any (fun q => q.2 == (zmOwn M, x, ci, k0)) = true) (hk9 : zfk (zfty ci k0) = 1)
    (hfi : (zT ci k0).2.2.2 = false ∨ (zmKind M = 2 ∧ (zT ci k0).1 = zcn (zmOwn M))) (ha0 : zc S a = ci) (k : zGo p l e R s m args below meth c Q M cad tc D S0 A ws0 c0 z0 (i + 1) ls st (zsL S a k0 v)) : zGo p l e R s m args below meth c Q M cad tc D S0 A ws0 c0 z0 i ls (.long v :: .ref a :: st) S := by
  obtain ⟨hx, hb, hml, hown, hts, hlk, hrt, hin, htr, hA, hKc, hKw, htab, hRf, hRl⟩ := C
  intro ws H locs ar sr hW hL hl hS hc hz
  obtain ⟨V0, sr, rfl, h8, hS0⟩ := hS.cons
  clear hS
  cases h8
  obtain ⟨V, sr, rfl, ⟨q, rfl, ha⟩, hS1⟩ := hS0.cons
  clear hS0
  have hW' := hW
  obtain ⟨hK, hP, hD, hSS, hR, hKn, hX⟩ := hW'
  obtain ⟨h75, e9, he, hE⟩ := hW.cell hKc ha (by omega) (by omega) (by omega) (by omega)
  obtain ⟨fs, rfl, hfl, hff⟩ := hE.obj (by omega)
  rw [ha0] at hfl hff he
  have hnf : narrow (zfty ci k0) (.long v) = .long v ∧ fits (zfty ci k0) (.long v) = true := by
    rw [zfk_long hk9]; exact ⟨rfl, rfl⟩
  have hself : zL (zsL S a k0 v) a = vp_updL (zL S a) k0 v := va_up_self _ _ _
  have hrep : zRep cad tc (ws.set (a - 75) (q, .inr (ci, fs.set k0 (.long v)))) (zsL S a k0 v) := by
    refine hR.put he rfl (fun j hj => zwL_o (by omega)) ?_
    rw [show a - 75 + 75 = a by omega]
    refine ⟨ha0.symm, hci, by rw [List.length_set]; exact hfl, fun j w hw9 => ?_⟩
    by_cases hj : k0 = j
    · subst hj
      rw [List.getElem?_set_self (by omega)] at hw9
      cases hw9
      rw [zfk_long hk9]; show Value.long v = .long (zL (zsL S a k0 v) a k0); rw [hself]; simp [vp_updL]
    · rw [List.getElem?_set_ne hj] at hw9
      exact zFR_set ((hff j w hw9).ext (zExt.put he)) rfl (by rw [hself]; simp [vp_updL, Ne.symm hj]) rfl
  have hKn' : zKon (zsL S a k0 v) S0 := hKn.put h75 (fun j hj => zwL_o hj)
  rw [hp]
  have fin : ∀ (H1 : Heap) (locs1 : List Loc), va_P D vwCl (ws.set (a - 75) (q, .inr (ci, fs.set k0 (.long v)))) H1 → va_D A (ws.set (a - 75) (q, .inr (ci, fs.set k0 (.long v)))) → va_S A s.heap H1 locs1 →
      W p l e R s m args below meth c H1 locs1 (zu S - c0) (zz S - z0) Q (F0 m (pc + 3) ar sr) := fun H1 locs1 g1 g2 g3 => by
    have hx9 : zExt ws (ws.set (a - 75) (q, .inr (ci, fs.set k0 (.long v)))) := zExt.put he
    have := k _ H1 locs1 ar sr ⟨hK, g1, g2, g3, hrep, hKn', hX.tr hx9⟩ (hL.ext hx9) hl (hS1.ext hx9) hc hz
    rw [hn] at this
    exact this
  rcases hfi with hfi | ⟨hk2, hfi⟩
  · exact va_put hx hb hts (zlay_at hci) (zfty ci) (zty_at hci) (znm_at hci) hown hK hP hD hSS (a - 75) he (zcl_at hci) k0 hk0 (hts _ (zFL_at hw)) (fun _ h => h) hfi (zty_at hci k0 hk0) hnf.1 hnf.2 (by omega) hd fin
  · by_cases hf9 : (zT ci k0).2.2.2 = false
    · exact va_put hx hb hts (zlay_at hci) (zfty ci) (zty_at hci) (znm_at hci) hown hK hP hD hSS (a - 75) he (zcl_at hci) k0 hk0 (hts _ (zFL_at hw)) (fun _ h => h) hf9 (zty_at hci k0 hk0) hnf.1 hnf.2 (by omega) hd fin
    · exact va_putF hx hb hts (zlay_at hci) (zfty ci) (zty_at hci) (znm_at hci) hown hK hP hD hSS (a - 75) he (zcl_at hci) k0 hk0 (hts _ (zFL_at hw)) (fun _ h => h) (by simpa using hf9) (hin hk2) hfi (zty_at hci k0 hk0) hnf.1 hnf.2 (by omega) hd fin
theorem zs_putR {x ci k0 a : Nat} {v : Nat} (C : zCx p l R s m args meth c M cad S0 A) (hp : zpcOf M i = pc) (hd : decode (zmCode M) pc = .ok (.putfield x, 3)) (hn : zpcOf M (i + 1) = pc + 3) (hci : ci < 13) (hk0 : k0 < zfn ci) (hw : zFL.any (fun q => q.2 == (zmOwn M, x, ci, k0)) = true) (hk9 : zfk (zfty ci k0) = 2)
    (hfi : (zT ci k0).2.2.2 = false ∨ (zmKind M = 2 ∧ (zT ci k0).1 = zcn (zmOwn M))) (ha0 : zc S a = ci) (k : zGo p l e R s m args below meth c Q M cad tc D S0 A ws0 c0 z0 (i + 1) ls st (zsR S a k0 (some v))) : zGo p l e R s m args below meth c Q M cad tc D S0 A ws0 c0 z0 i ls (.ref v :: .ref a :: st) S := by
  obtain ⟨hx, hb, hml, hown, hts, hlk, hrt, hin, htr, hA, hKc, hKw, htab, hRf, hRl⟩ := C
  intro ws H locs ar sr hW hL hl hS hc hz
  obtain ⟨V0, sr, rfl, ⟨v1, rfl, hv1⟩, hS0⟩ := hS.cons
  clear hS
  obtain ⟨V, sr, rfl, ⟨q, rfl, ha⟩, hS1⟩ := hS0.cons
  clear hS0
  have hW' := hW
  obtain ⟨hK, hP, hD, hSS, hR, hKn, hX⟩ := hW'
  obtain ⟨h75, e9, he, hE⟩ := hW.cell hKc ha (by omega) (by omega) (by omega) (by omega)
  obtain ⟨fs, rfl, hfl, hff⟩ := hE.obj (by omega)
  rw [ha0] at hfl hff he
  have hnf : narrow (zfty ci k0) (.ref v1) = .ref v1 ∧ fits (zfty ci k0) (.ref v1) = true := by
    rcases zfk_ref hk9 with ⟨n, h9⟩ | ⟨n, h9⟩ <;> (rw [h9]; exact ⟨rfl, rfl⟩)
  have hself : zR (zsR S a k0 (some v)) a = va_up (zR S a) k0 (some v) := va_up_self _ _ _
  have hrep : zRep cad tc (ws.set (a - 75) (q, .inr (ci, fs.set k0 (.ref v1)))) (zsR S a k0 (some v)) := by
    refine hR.put he rfl (fun j hj => zwR_o (by omega)) ?_
    rw [show a - 75 + 75 = a by omega]
    refine ⟨ha0.symm, hci, by rw [List.length_set]; exact hfl, fun j w hw9 => ?_⟩
    by_cases hj : k0 = j
    · subst hj
      rw [List.getElem?_set_self (by omega)] at hw9
      cases hw9
      rcases zfk_ref hk9 with ⟨n, h9⟩ | ⟨n, h9⟩ <;> (rw [h9]; exact ⟨some v1, by rw [hself, va_up_self]; exact hv1.ext (zExt.put he), rfl⟩)
    · rw [List.getElem?_set_ne hj] at hw9
      exact zFR_set ((hff j w hw9).ext (zExt.put he)) rfl rfl (by rw [hself]; simp [va_up, Ne.symm hj])
  have hKn' : zKon (zsR S a k0 (some v)) S0 := hKn.put h75 (fun j hj => zwR_o hj)
  rw [hp]
  have fin : ∀ (H1 : Heap) (locs1 : List Loc), va_P D vwCl (ws.set (a - 75) (q, .inr (ci, fs.set k0 (.ref v1)))) H1 → va_D A (ws.set (a - 75) (q, .inr (ci, fs.set k0 (.ref v1)))) → va_S A s.heap H1 locs1 →
      W p l e R s m args below meth c H1 locs1 (zu S - c0) (zz S - z0) Q (F0 m (pc + 3) ar sr) := fun H1 locs1 g1 g2 g3 => by
    have hx9 : zExt ws (ws.set (a - 75) (q, .inr (ci, fs.set k0 (.ref v1)))) := zExt.put he
    have := k _ H1 locs1 ar sr ⟨hK, g1, g2, g3, hrep, hKn', hX.tr hx9⟩ (hL.ext hx9) hl (hS1.ext hx9) hc hz
    rw [hn] at this
    exact this
  rcases hfi with hfi | ⟨hk2, hfi⟩
  · exact va_put hx hb hts (zlay_at hci) (zfty ci) (zty_at hci) (znm_at hci) hown hK hP hD hSS (a - 75) he (zcl_at hci) k0 hk0 (hts _ (zFL_at hw)) (fun _ h => h) hfi (zty_at hci k0 hk0) hnf.1 hnf.2 (by omega) hd fin
  · by_cases hf9 : (zT ci k0).2.2.2 = false
    · exact va_put hx hb hts (zlay_at hci) (zfty ci) (zty_at hci) (znm_at hci) hown hK hP hD hSS (a - 75) he (zcl_at hci) k0 hk0 (hts _ (zFL_at hw)) (fun _ h => h) hf9 (zty_at hci k0 hk0) hnf.1 hnf.2 (by omega) hd fin
    · exact va_putF hx hb hts (zlay_at hci) (zfty ci) (zty_at hci) (znm_at hci) hown hK hP hD hSS (a - 75) he (zcl_at hci) k0 hk0 (hts _ (zFL_at hw)) (fun _ h => h) (by simpa using hf9) (hin hk2) hfi (zty_at hci k0 hk0) hnf.1 hnf.2 (by omega) hd fin
theorem zs_iald {a : Nat} {j : Int32} (C : zCx p l R s m args meth c M cad S0 A) (hp : zpcOf M i = pc) (hd : decode (zmCode M) pc = .ok (.iaload, 1)) (hn : zpcOf M (i + 1) = pc + 1) (ha0 : zc S a = 100) (hj : vp_in j (zn S a)) (k : zGo p l e R s m args below meth c Q M cad tc D S0 A ws0 c0 z0 (i + 1) ls (.int (zI S a j.toNatClampNeg) :: st) S) : zGo p l e R s m args below meth c Q M cad tc D S0 A ws0 c0 z0 i ls (.int j :: .ref a :: st) S := by
  obtain ⟨hx, hb, hml, hown, hts, hlk, hrt, hin, htr, hA, hKc, hKw, htab, hRf, hRl⟩ := C
  intro ws H locs ar sr hW hL hl hS hc hz
  obtain ⟨V0, sr, rfl, h8, hS0⟩ := hS.cons
  clear hS
  cases h8
  obtain ⟨V, sr, rfl, ⟨q, rfl, ha⟩, hS1⟩ := hS0.cons
  clear hS0
  have hW' := hW
  obtain ⟨hK, hP, hD, hSS, hR, hKn, hX⟩ := hW'
  obtain ⟨h75, e9, he, hE⟩ := hW.cell hKc ha (by omega) (by omega) (by omega) (by omega)
  rw [hE.ints (by omega), ha0] at he
  rw [hp]
  refine va_iald hx hb hK hP (a - 75) 0 he (show (ztys tc)[0]? = some (tc 100, .int) from rfl) hj hd ?_
  have := k ws H locs ar (.int (zI S a j.toNatClampNeg) :: sr) hW hL hl ⟨rfl, hS1⟩ hc hz
  rwa [hn] at this
theorem zs_zald {a : Nat} {j : Int32} (C : zCx p l R s m args meth c M cad S0 A) (hp : zpcOf M i = pc) (hd : decode (zmCode M) pc = .ok (.baload, 1)) (hn : zpcOf M (i + 1) = pc + 1) (ha0 : zc S a = 102) (hj : vp_in j (zn S a)) (k : zGo p l e R s m args below meth c Q M cad tc D S0 A ws0 c0 z0 (i + 1) ls (.int (zI S a j.toNatClampNeg) :: st) S) : zGo p l e R s m args below meth c Q M cad tc D S0 A ws0 c0 z0 i ls (.int j :: .ref a :: st) S := by
  obtain ⟨hx, hb, hml, hown, hts, hlk, hrt, hin, htr, hA, hKc, hKw, htab, hRf, hRl⟩ := C
  intro ws H locs ar sr hW hL hl hS hc hz
  obtain ⟨V0, sr, rfl, h8, hS0⟩ := hS.cons
  clear hS
  cases h8
  obtain ⟨V, sr, rfl, ⟨q, rfl, ha⟩, hS1⟩ := hS0.cons
  clear hS0
  have hW' := hW
  obtain ⟨hK, hP, hD, hSS, hR, hKn, hX⟩ := hW'
  obtain ⟨h75, e9, he, hE⟩ := hW.cell hKc ha (by omega) (by omega) (by omega) (by omega)
  rw [hE.ints (by omega), ha0] at he
  rw [hp]
  refine va_zald hx hb hK hP (a - 75) 2 he (show (ztys tc)[2]? = some (tc 102, .boolean) from rfl) hj hd ?_
  have := k ws H locs ar (.int (zI S a j.toNatClampNeg) :: sr) hW hL hl ⟨rfl, hS1⟩ hc hz
  rwa [hn] at this
theorem zs_lald {a : Nat} {j : Int32} (C : zCx p l R s m args meth c M cad S0 A) (hp : zpcOf M i = pc) (hd : decode (zmCode M) pc = .ok (.laload, 1)) (hn : zpcOf M (i + 1) = pc + 1) (ha0 : zc S a = 101) (hj : vp_in j (zn S a)) (k : zGo p l e R s m args below meth c Q M cad tc D S0 A ws0 c0 z0 (i + 1) ls (.long (zL S a j.toNatClampNeg) :: st) S) : zGo p l e R s m args below meth c Q M cad tc D S0 A ws0 c0 z0 i ls (.int j :: .ref a :: st) S := by
  obtain ⟨hx, hb, hml, hown, hts, hlk, hrt, hin, htr, hA, hKc, hKw, htab, hRf, hRl⟩ := C
  intro ws H locs ar sr hW hL hl hS hc hz
  obtain ⟨V0, sr, rfl, h8, hS0⟩ := hS.cons
  clear hS
  cases h8
  obtain ⟨V, sr, rfl, ⟨q, rfl, ha⟩, hS1⟩ := hS0.cons
  clear hS0
  have hW' := hW
  obtain ⟨hK, hP, hD, hSS, hR, hKn, hX⟩ := hW'
  obtain ⟨h75, e9, he, hE⟩ := hW.cell hKc ha (by omega) (by omega) (by omega) (by omega)
  rw [hE.longs (by omega), ha0] at he
  rw [hp]
  refine va_lald hx hb hK hP (a - 75) 1 he (show (ztys tc)[1]? = some (tc 101, .long) from rfl) hj hd ?_
  have := k ws H locs ar (.long (zL S a j.toNatClampNeg) :: sr) hW hL hl ⟨rfl, hS1⟩ hc hz
  rwa [hn] at this
theorem zs_tald {a : Nat} {j : Int32} (C : zCx p l R s m args meth c M cad S0 A) (hp : zpcOf M i = pc) (hd : decode (zmCode M) pc = .ok (.iaload, 1)) (hn : zpcOf M (i + 1) = pc + 1) (ha0 : zc S a = 104) (hj : vp_in j (zn S a)) (k : zGo p l e R s m args below meth c Q M cad tc D S0 A ws0 c0 z0 (i + 1) ls (.int (zI S a j.toNatClampNeg) :: st) S) : zGo p l e R s m args below meth c Q M cad tc D S0 A ws0 c0 z0 i ls (.int j :: .ref a :: st) S := by
  obtain ⟨hx, hb, hml, hown, hts, hlk, hrt, hin, htr, hA, hKc, hKw, htab, hRf, hRl⟩ := C
  intro ws H locs ar sr hW hL hl hS hc hz
  obtain ⟨V0, sr, rfl, h8, hS0⟩ := hS.cons
  clear hS
  cases h8
  obtain ⟨V, sr, rfl, ⟨q, rfl, ha⟩, hS1⟩ := hS0.cons
  clear hS0
  have hW' := hW
  obtain ⟨hK, hP, hD, hSS, hR, hKn, hX⟩ := hW'
  obtain ⟨h75, rfl, e1, e2, e3, e4⟩ := hW.const ha (by omega)
  have hT := hKc.2.1 a h75 (by omega)
  rw [hp]
  refine va_ti hx hb hT hSS (by rw [e2]; exact hj) (v := .int (zI S a j.toNatClampNeg)) (by rw [e3]) hd ?_
  have := k ws H locs ar (.int (zI S a j.toNatClampNeg) :: sr) hW hL hl ⟨rfl, hS1⟩ hc hz
  rwa [hn] at this
theorem zs_sald {a : Nat} {j : Int32} (C : zCx p l R s m args meth c M cad S0 A) (hp : zpcOf M i = pc) (hd : decode (zmCode M) pc = .ok (.iaload, 1)) (hn : zpcOf M (i + 1) = pc + 1) (ha0 : zc S a = 105) (hj : vp_in j (zn S a)) (k : zGo p l e R s m args below meth c Q M cad tc D S0 A ws0 c0 z0 (i + 1) ls (.int (zI S a j.toNatClampNeg) :: st) S) : zGo p l e R s m args below meth c Q M cad tc D S0 A ws0 c0 z0 i ls (.int j :: .ref a :: st) S := by
  obtain ⟨hx, hb, hml, hown, hts, hlk, hrt, hin, htr, hA, hKc, hKw, htab, hRf, hRl⟩ := C
  intro ws H locs ar sr hW hL hl hS hc hz
  obtain ⟨V0, sr, rfl, h8, hS0⟩ := hS.cons
  clear hS
  cases h8
  obtain ⟨V, sr, rfl, ⟨q, rfl, ha⟩, hS1⟩ := hS0.cons
  clear hS0
  have hW' := hW
  obtain ⟨hK, hP, hD, hSS, hR, hKn, hX⟩ := hW'
  obtain ⟨h75, rfl, e1, e2, e3, e4⟩ := hW.const ha (by omega)
  have hT := hKc.2.1 a h75 (by omega)
  rw [hp]
  refine va_ti hx hb hT hSS (by rw [e2]; exact hj) (v := .int (zI S a j.toNatClampNeg)) (by rw [e3]) hd ?_
  have := k ws H locs ar (.int (zI S a j.toNatClampNeg) :: sr) hW hL hl ⟨rfl, hS1⟩ hc hz
  rwa [hn] at this
theorem zs_tbld {a : Nat} {j : Int32} (C : zCx p l R s m args meth c M cad S0 A) (hp : zpcOf M i = pc) (hd : decode (zmCode M) pc = .ok (.baload, 1)) (hn : zpcOf M (i + 1) = pc + 1) (ha0 : zc S a = 103) (hj : vp_in j (zn S a)) (k : zGo p l e R s m args below meth c Q M cad tc D S0 A ws0 c0 z0 (i + 1) ls (.int (zI S a j.toNatClampNeg) :: st) S) : zGo p l e R s m args below meth c Q M cad tc D S0 A ws0 c0 z0 i ls (.int j :: .ref a :: st) S := by
  obtain ⟨hx, hb, hml, hown, hts, hlk, hrt, hin, htr, hA, hKc, hKw, htab, hRf, hRl⟩ := C
  intro ws H locs ar sr hW hL hl hS hc hz
  obtain ⟨V0, sr, rfl, h8, hS0⟩ := hS.cons
  clear hS
  cases h8
  obtain ⟨V, sr, rfl, ⟨q, rfl, ha⟩, hS1⟩ := hS0.cons
  clear hS0
  have hW' := hW
  obtain ⟨hK, hP, hD, hSS, hR, hKn, hX⟩ := hW'
  obtain ⟨h75, rfl, e1, e2, e3, e4⟩ := hW.const ha (by omega)
  have hT := hKc.2.2.1 a h75 (by omega)
  rw [hp]
  refine va_tb hx hb hT hSS (by rw [e2]; exact hj) (v := .int (zI S a j.toNatClampNeg)) (by rw [e3]) hd ?_
  have := k ws H locs ar (.int (zI S a j.toNatClampNeg) :: sr) hW hL hl ⟨rfl, hS1⟩ hc hz
  rwa [hn] at this
theorem zs_ilen {a : Nat} (C : zCx p l R s m args meth c M cad S0 A) (hp : zpcOf M i = pc) (hd : decode (zmCode M) pc = .ok (.arraylength, 1)) (hn : zpcOf M (i + 1) = pc + 1) (ha0 : zc S a = 100) (k : zGo p l e R s m args below meth c Q M cad tc D S0 A ws0 c0 z0 (i + 1) ls (.int (nI (zn S a)) :: st) S) : zGo p l e R s m args below meth c Q M cad tc D S0 A ws0 c0 z0 i ls (.ref a :: st) S := by
  obtain ⟨hx, hb, hml, hown, hts, hlk, hrt, hin, htr, hA, hKc, hKw, htab, hRf, hRl⟩ := C
  intro ws H locs ar sr hW hL hl hS hc hz
  obtain ⟨V, sr, rfl, ⟨q, rfl, ha⟩, hS1⟩ := hS.cons
  clear hS
  have hW' := hW
  obtain ⟨hK, hP, hD, hSS, hR, hKn, hX⟩ := hW'
  obtain ⟨h75, e9, he, hE⟩ := hW.cell hKc ha (by omega) (by omega) (by omega) (by omega)
  rw [hE.ints (by omega), ha0] at he
  rw [hp]
  refine va_alen hx hb hK hP (a - 75) 0 he (show (ztys tc)[0]? = some (tc 100, .int) from rfl) (v := nI (zn S a)) rfl hd ?_
  have := k ws H locs ar (.int (nI (zn S a)) :: sr) hW hL hl ⟨rfl, hS1⟩ hc hz
  rwa [hn] at this
theorem zs_tlen {a : Nat} (C : zCx p l R s m args meth c M cad S0 A) (hp : zpcOf M i = pc) (hd : decode (zmCode M) pc = .ok (.arraylength, 1)) (hn : zpcOf M (i + 1) = pc + 1) (ha0 : zc S a = 104) (k : zGo p l e R s m args below meth c Q M cad tc D S0 A ws0 c0 z0 (i + 1) ls (.int (nI (zn S a)) :: st) S) : zGo p l e R s m args below meth c Q M cad tc D S0 A ws0 c0 z0 i ls (.ref a :: st) S := by
  obtain ⟨hx, hb, hml, hown, hts, hlk, hrt, hin, htr, hA, hKc, hKw, htab, hRf, hRl⟩ := C
  intro ws H locs ar sr hW hL hl hS hc hz
  obtain ⟨V, sr, rfl, ⟨q, rfl, ha⟩, hS1⟩ := hS.cons
  clear hS
  have hW' := hW
  obtain ⟨hK, hP, hD, hSS, hR, hKn, hX⟩ := hW'
  obtain ⟨h75, rfl, e1, e2, e3, e4⟩ := hW.const ha (by omega)
  have hT := hKc.2.1 a h75 (by omega)
  rw [hp]
  refine va_tlen hx hb hT hSS (v := nI (zn S a)) (by rw [e2]; rfl) hd ?_
  have := k ws H locs ar (.int (nI (zn S a)) :: sr) hW hL hl ⟨rfl, hS1⟩ hc hz
  rwa [hn] at this
theorem zs_slen {a : Nat} (C : zCx p l R s m args meth c M cad S0 A) (hp : zpcOf M i = pc) (hd : decode (zmCode M) pc = .ok (.arraylength, 1)) (hn : zpcOf M (i + 1) = pc + 1) (ha0 : zc S a = 105) (k : zGo p l e R s m args below meth c Q M cad tc D S0 A ws0 c0 z0 (i + 1) ls (.int (nI (zn S a)) :: st) S) : zGo p l e R s m args below meth c Q M cad tc D S0 A ws0 c0 z0 i ls (.ref a :: st) S := by
  obtain ⟨hx, hb, hml, hown, hts, hlk, hrt, hin, htr, hA, hKc, hKw, htab, hRf, hRl⟩ := C
  intro ws H locs ar sr hW hL hl hS hc hz
  obtain ⟨V, sr, rfl, ⟨q, rfl, ha⟩, hS1⟩ := hS.cons
  clear hS
  have hW' := hW
  obtain ⟨hK, hP, hD, hSS, hR, hKn, hX⟩ := hW'
  obtain ⟨h75, rfl, e1, e2, e3, e4⟩ := hW.const ha (by omega)
  have hT := hKc.2.1 a h75 (by omega)
  rw [hp]
  refine va_tlen hx hb hT hSS (v := nI (zn S a)) (by rw [e2]; rfl) hd ?_
  have := k ws H locs ar (.int (nI (zn S a)) :: sr) hW hL hl ⟨rfl, hS1⟩ hc hz
  rwa [hn] at this
theorem zs_blen {a : Nat} (C : zCx p l R s m args meth c M cad S0 A) (hp : zpcOf M i = pc) (hd : decode (zmCode M) pc = .ok (.arraylength, 1)) (hn : zpcOf M (i + 1) = pc + 1) (ha0 : zc S a = 103) (k : zGo p l e R s m args below meth c Q M cad tc D S0 A ws0 c0 z0 (i + 1) ls (.int (nI (zn S a)) :: st) S) : zGo p l e R s m args below meth c Q M cad tc D S0 A ws0 c0 z0 i ls (.ref a :: st) S := by
  obtain ⟨hx, hb, hml, hown, hts, hlk, hrt, hin, htr, hA, hKc, hKw, htab, hRf, hRl⟩ := C
  intro ws H locs ar sr hW hL hl hS hc hz
  obtain ⟨V, sr, rfl, ⟨q, rfl, ha⟩, hS1⟩ := hS.cons
  clear hS
  have hW' := hW
  obtain ⟨hK, hP, hD, hSS, hR, hKn, hX⟩ := hW'
  obtain ⟨h75, rfl, e1, e2, e3, e4⟩ := hW.const ha (by omega)
  have hT := hKc.2.2.1 a h75 (by omega)
  rw [hp]
  refine va_tlen hx hb hT hSS (v := nI (zn S a)) (by rw [e2]; rfl) hd ?_
  have := k ws H locs ar (.int (nI (zn S a)) :: sr) hW hL hl ⟨rfl, hS1⟩ hc hz
  rwa [hn] at this
theorem zs_iast {a : Nat} {j : Int32} {v : Int32} (C : zCx p l R s m args meth c M cad S0 A) (hp : zpcOf M i = pc) (hd : decode (zmCode M) pc = .ok (.iastore, 1)) (hn : zpcOf M (i + 1) = pc + 1) (ha0 : zc S a = 100) (hj : vp_in j (zn S a)) (k : zGo p l e R s m args below meth c Q M cad tc D S0 A ws0 c0 z0 (i + 1) ls st (zsI S a j.toNatClampNeg v)) : zGo p l e R s m args below meth c Q M cad tc D S0 A ws0 c0 z0 i ls (.int v :: .int j :: .ref a :: st) S := by
  obtain ⟨hx, hb, hml, hown, hts, hlk, hrt, hin, htr, hA, hKc, hKw, htab, hRf, hRl⟩ := C
  intro ws H locs ar sr hW hL hl hS hc hz
  obtain ⟨V0, sr, rfl, h8, hS0⟩ := hS.cons
  clear hS
  cases h8
  obtain ⟨V1, sr, rfl, h9, hS2⟩ := hS0.cons
  clear hS0
  cases h9
  obtain ⟨V, sr, rfl, ⟨q, rfl, ha⟩, hS1⟩ := hS2.cons
  clear hS2
  have hW' := hW
  obtain ⟨hK, hP, hD, hSS, hR, hKn, hX⟩ := hW'
  obtain ⟨h75, e9, he, hE⟩ := hW.cell hKc ha (by omega) (by omega) (by omega) (by omega)
  rw [hE.ints (by omega), ha0] at he
  have hself : zI (zsI S a j.toNatClampNeg v) a = upd (zI S a) j.toNatClampNeg v := va_up_self _ _ _
  have hrep : zRep cad tc (ws.set (a - 75) (q, .inl (tc 100, zn S a, .inl (upd (zI S a) j.toNatClampNeg v)))) (zsI S a j.toNatClampNeg v) := by
    refine hR.put he rfl (fun j hj => zwI_o (by omega)) ?_
    rw [show a - 75 + 75 = a by omega]
    exact ⟨by show tc 100 = tc (zc S a); rw [ha0], rfl, Or.inl ha0, hself.symm⟩
  have hKn' : zKon (zsI S a j.toNatClampNeg v) S0 := hKn.put h75 (fun j hj => zwI_o hj)
  rw [hp]
  refine va_iast hx hb hK hP hD hSS (a - 75) 0 he (show (ztys tc)[0]? = some (tc 100, .int) from rfl) hj hd (fun H1 locs1 g1 g2 g3 => ?_)
  have hx9 : zExt ws (ws.set (a - 75) (q, .inl (tc 100, zn S a, .inl (upd (zI S a) j.toNatClampNeg v)))) := zExt.put he
  have := k _ H1 locs1 ar sr ⟨hK, g1, g2, g3, hrep, hKn', hX.tr hx9⟩ (hL.ext hx9) hl (hS1.ext hx9) hc hz
  rw [hn] at this
  exact this
theorem zs_zast {a : Nat} {j : Int32} {v : Int32} (C : zCx p l R s m args meth c M cad S0 A) (hp : zpcOf M i = pc) (hd : decode (zmCode M) pc = .ok (.bastore, 1)) (hn : zpcOf M (i + 1) = pc + 1) (ha0 : zc S a = 102) (hj : vp_in j (zn S a)) (k : zGo p l e R s m args below meth c Q M cad tc D S0 A ws0 c0 z0 (i + 1) ls st (zsI S a j.toNatClampNeg (vp_nar .boolean v))) : zGo p l e R s m args below meth c Q M cad tc D S0 A ws0 c0 z0 i ls (.int v :: .int j :: .ref a :: st) S := by
  obtain ⟨hx, hb, hml, hown, hts, hlk, hrt, hin, htr, hA, hKc, hKw, htab, hRf, hRl⟩ := C
  intro ws H locs ar sr hW hL hl hS hc hz
  obtain ⟨V0, sr, rfl, h8, hS0⟩ := hS.cons
  clear hS
  cases h8
  obtain ⟨V1, sr, rfl, h9, hS2⟩ := hS0.cons
  clear hS0
  cases h9
  obtain ⟨V, sr, rfl, ⟨q, rfl, ha⟩, hS1⟩ := hS2.cons
  clear hS2
  have hW' := hW
  obtain ⟨hK, hP, hD, hSS, hR, hKn, hX⟩ := hW'
  obtain ⟨h75, e9, he, hE⟩ := hW.cell hKc ha (by omega) (by omega) (by omega) (by omega)
  rw [hE.ints (by omega), ha0] at he
  have hself : zI (zsI S a j.toNatClampNeg (vp_nar .boolean v)) a = upd (zI S a) j.toNatClampNeg (vp_nar .boolean v) := va_up_self _ _ _
  have hrep : zRep cad tc (ws.set (a - 75) (q, .inl (tc 102, zn S a, .inl (upd (zI S a) j.toNatClampNeg (vp_nar .boolean v))))) (zsI S a j.toNatClampNeg (vp_nar .boolean v)) := by
    refine hR.put he rfl (fun j hj => zwI_o (by omega)) ?_
    rw [show a - 75 + 75 = a by omega]
    exact ⟨by show tc 102 = tc (zc S a); rw [ha0], rfl, Or.inr ha0, hself.symm⟩
  have hKn' : zKon (zsI S a j.toNatClampNeg (vp_nar .boolean v)) S0 := hKn.put h75 (fun j hj => zwI_o hj)
  rw [hp]
  refine va_zast hx hb hK hP hD hSS (a - 75) 2 he (show (ztys tc)[2]? = some (tc 102, .boolean) from rfl) hj hd (fun H1 locs1 g1 g2 g3 => ?_)
  have hx9 : zExt ws (ws.set (a - 75) (q, .inl (tc 102, zn S a, .inl (upd (zI S a) j.toNatClampNeg (vp_nar .boolean v))))) := zExt.put he
  have := k _ H1 locs1 ar sr ⟨hK, g1, g2, g3, hrep, hKn', hX.tr hx9⟩ (hL.ext hx9) hl (hS1.ext hx9) hc hz
  rw [hn] at this
  exact this
theorem zs_last {a : Nat} {j : Int32} {v : Int64} (C : zCx p l R s m args meth c M cad S0 A) (hp : zpcOf M i = pc) (hd : decode (zmCode M) pc = .ok (.lastore, 1)) (hn : zpcOf M (i + 1) = pc + 1) (ha0 : zc S a = 101) (hj : vp_in j (zn S a)) (k : zGo p l e R s m args below meth c Q M cad tc D S0 A ws0 c0 z0 (i + 1) ls st (zsL S a j.toNatClampNeg v)) : zGo p l e R s m args below meth c Q M cad tc D S0 A ws0 c0 z0 i ls (.long v :: .int j :: .ref a :: st) S := by
  obtain ⟨hx, hb, hml, hown, hts, hlk, hrt, hin, htr, hA, hKc, hKw, htab, hRf, hRl⟩ := C
  intro ws H locs ar sr hW hL hl hS hc hz
  obtain ⟨V0, sr, rfl, h8, hS0⟩ := hS.cons
  clear hS
  cases h8
  obtain ⟨V1, sr, rfl, h9, hS2⟩ := hS0.cons
  clear hS0
  cases h9
  obtain ⟨V, sr, rfl, ⟨q, rfl, ha⟩, hS1⟩ := hS2.cons
  clear hS2
  have hW' := hW
  obtain ⟨hK, hP, hD, hSS, hR, hKn, hX⟩ := hW'
  obtain ⟨h75, e9, he, hE⟩ := hW.cell hKc ha (by omega) (by omega) (by omega) (by omega)
  rw [hE.longs (by omega), ha0] at he
  have hself : zL (zsL S a j.toNatClampNeg v) a = vp_updL (zL S a) j.toNatClampNeg v := va_up_self _ _ _
  have hrep : zRep cad tc (ws.set (a - 75) (q, .inl (tc 101, zn S a, .inr (.inl (vp_updL (zL S a) j.toNatClampNeg v))))) (zsL S a j.toNatClampNeg v) := by
    refine hR.put he rfl (fun j hj => zwL_o (by omega)) ?_
    rw [show a - 75 + 75 = a by omega]
    exact ⟨by show tc 101 = tc (zc S a); rw [ha0], rfl, ha0, hself.symm⟩
  have hKn' : zKon (zsL S a j.toNatClampNeg v) S0 := hKn.put h75 (fun j hj => zwL_o hj)
  rw [hp]
  refine va_last hx hb hK hP hD hSS (a - 75) 1 he (show (ztys tc)[1]? = some (tc 101, .long) from rfl) hj hd (fun H1 locs1 g1 g2 g3 => ?_)
  have hx9 : zExt ws (ws.set (a - 75) (q, .inl (tc 101, zn S a, .inr (.inl (vp_updL (zL S a) j.toNatClampNeg v))))) := zExt.put he
  have := k _ H1 locs1 ar sr ⟨hK, g1, g2, g3, hrep, hKn', hX.tr hx9⟩ (hL.ext hx9) hl (hS1.ext hx9) hc hz
  rw [hn] at this
  exact this
end ZHeap
