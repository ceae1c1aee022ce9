/-! From the little machine to the JVM: which cell is which, what a world says of a store -/
/-- the address of a cell: a constant's by cad, another's in the world -/
def zA (cad : Nat → Nat) (ws : va_W) (k a : Nat) : Prop := (k < 75 ∧ a = cad k) ∨ (75 ≤ k ∧ ∃ e, ws[k - 75]? = some (a, e))
def zOR (cad : Nat → Nat) (ws : va_W) (x y : Option Nat) : Prop := match x, y with
  | none, none => True
  | some k, some a => zA cad ws k a
  | _, _ => False
def zV (cad : Nat → Nat) (ws : va_W) (v V : Value) : Prop := match v with
  | .ref k => ∃ a, V = .ref a ∧ zA cad ws k a
  | .float _ => V = .null ∨ ∃ q, V = .ref q
  | .double _ => False
  | .retAddr _ => False
  | .int x => V = .int x
  | .long x => V = .long x
  | .null => V = .null
def zFR (cad : Nat → Nat) (ws : va_W) (S : ZSt) (k j : Nat) (ty : FieldType) (v : Value) : Prop := match ty with
  | .long => v = .long (zL S k j)
  | .object _ => ∃ r, zOR cad ws (zR S k j) r ∧ v = va_rf r
  | .array _ => ∃ r, zOR cad ws (zR S k j) r ∧ v = va_rf r
  | _ => v = .int (zI S k j)
def zE (cad : Nat → Nat) (tc : Nat → ClassId) (ws : va_W) (S : ZSt) (k : Nat) (e : va_E) : Prop := match e with
  | .inl (cA, n, con) => cA = tc (zc S k) ∧ n = zn S k ∧ (match con with
    | .inl f => (zc S k = 100 ∨ zc S k = 102) ∧ f = zI S k
    | .inr (.inl f) => zc S k = 101 ∧ f = zL S k
    | .inr (.inr (.inr (.inr f))) => (zc S k = 113 ∨ zc S k = 115 ∨ zc S k = 119) ∧ ∀ i, i < n → zOR cad ws (zR S k i) (f i)
    | _ => False)
  | .inr (ci, fs) => ci = zc S k ∧ ci < 13 ∧ fs.length = zfn ci ∧ ∀ j v, fs[j]? = some v → zFR cad ws S k j (zfty ci j) v
def zRep (cad : Nat → Nat) (tc : Nat → ClassId) (ws : va_W) (S : ZSt) : Prop := zx S = ws.length + 75 ∧ ∀ k q, ws[k]? = some q → zE cad tc ws S (k + 75) q.2
def zExt (ws ws' : va_W) : Prop := ∀ (k a : Nat) (e : va_E), ws[k]? = some (a, e) → ∃ e', ws'[k]? = some (a, e')
theorem zExt.rf {ws : va_W} : zExt ws ws := fun _ _ e h => ⟨e, h⟩
theorem zExt.tr {a b c : va_W} (h : zExt a b) (h' : zExt b c) : zExt a c := fun k q e he => by
  obtain ⟨e1, h1⟩ := h k q e he
  exact h' k q e1 h1
theorem zExt.push {ws : va_W} (x : Nat × va_E) : zExt ws (ws ++ [x]) := fun k a e h => ⟨e, by
  rw [List.getElem?_append_left ((List.getElem?_eq_some_iff.mp h).1)]; exact h⟩
theorem zExt.put {ws : va_W} {k a : Nat} {e e1 : va_E} (h : ws[k]? = some (a, e)) : zExt ws (ws.set k (a, e1)) := fun j b e2 h2 => by
  by_cases hj : k = j
  · subst hj
    cases Option.some.inj (h.symm.trans h2)
    exact ⟨e1, by rw [List.getElem?_set_self (List.getElem?_eq_some_iff.mp h).1]⟩
  · exact ⟨e2, by rw [List.getElem?_set_ne hj]; exact h2⟩
theorem zA.ext {cad : Nat → Nat} {ws ws' : va_W} {k a : Nat} (h : zA cad ws k a) (hx : zExt ws ws') : zA cad ws' k a := by
  rcases h with h | ⟨h, e, he⟩
  · exact Or.inl h
  · exact Or.inr ⟨h, hx _ _ _ he⟩
theorem zOR.ext {cad : Nat → Nat} {ws ws' : va_W} {x y : Option Nat} (h : zOR cad ws x y) (hx : zExt ws ws') : zOR cad ws' x y := by
  unfold zOR at h ⊢
  split at h
  · trivial
  · exact zA.ext h hx
  · exact h.elim
theorem zV.ext {cad : Nat → Nat} {ws ws' : va_W} {v V : Value} (h : zV cad ws v V) (hx : zExt ws ws') : zV cad ws' v V := by
  unfold zV at h ⊢
  cases v <;> first
    | exact h
    | (obtain ⟨a, h1, h2⟩ := h; exact ⟨a, h1, h2.ext hx⟩)
theorem zFR.ext {cad : Nat → Nat} {ws ws' : va_W} {S : ZSt} {k j : Nat} {ty : FieldType} {v : Value} (h : zFR cad ws S k j ty v) (hx : zExt ws ws') : zFR cad ws' S k j ty v := by
  unfold zFR at h ⊢
  split at h
  · exact h
  · obtain ⟨r, h1, h2⟩ := h
    exact ⟨r, h1.ext hx, h2⟩
  · obtain ⟨r, h1, h2⟩ := h
    exact ⟨r, h1.ext hx, h2⟩
  · exact h
theorem zE.ext {cad : Nat → Nat} {tc : Nat → ClassId} {ws ws' : va_W} {S : ZSt} {k : Nat} {e : va_E} (h : zE cad tc ws S k e) (hx : zExt ws ws') : zE cad tc ws' S k e := by
  unfold zE at h ⊢
  split at h
  · obtain ⟨h1, h2, h3⟩ := h
    refine ⟨h1, h2, ?_⟩
    split at h3
    · exact h3
    · exact h3
    · exact ⟨h3.1, fun i hi => (h3.2 i hi).ext hx⟩
    · exact h3.elim
  · obtain ⟨h1, h2, h3, h4⟩ := h
    exact ⟨h1, h2, h3, fun j v hv => (h4 j v hv).ext hx⟩
/-- the entry of a cell depends on what the store says of that cell alone -/
theorem zE.same {cad : Nat → Nat} {tc : Nat → ClassId} {ws : va_W} {S S' : ZSt} {k : Nat} {e : va_E} (h : zE cad tc ws S k e) (hI : zI S' k = zI S k) (hL : zL S' k = zL S k) (hR : zR S' k = zR S k) (hn : zn S' k = zn S k) (hc : zc S' k = zc S k) : zE cad tc ws S' k e := by
  unfold zE zFR at h ⊢
  simpa only [hI, hL, hR, hn, hc] using h
/-! locals and the stack -/
def zLR (cad : Nat → Nat) (ws : va_W) (ls : ZLo) (ar : Array Slot) : Prop := ar.size = ls.length ∧ lv_wf ar ∧ ∀ (i : Nat) (v : Value), ls[i]? = some (some v) → ∃ V : Value, zV cad ws v V ∧ ar[i]? = some (Slot.val V)
def zSR (cad : Nat → Nat) (ws : va_W) : List Value → List Value → Prop
  | [], [] => True
  | v :: st, V :: sr => zV cad ws v V ∧ zSR cad ws st sr
  | _, _ => False
theorem zLR.ext {cad : Nat → Nat} {ws ws' : va_W} {ls : ZLo} {ar : Array Slot} (h : zLR cad ws ls ar) (hx : zExt ws ws') : zLR cad ws' ls ar := ⟨h.1, h.2.1, fun i v hv => by
  obtain ⟨V, h1, h2⟩ := h.2.2 i v hv
  exact ⟨V, h1.ext hx, h2⟩⟩
theorem zSR.ext {cad : Nat → Nat} {ws ws' : va_W} : ∀ {st sr : List Value}, zSR cad ws st sr → zExt ws ws' → zSR cad ws' st sr
  | [], [], _, _ => trivial
  | [], _ :: _, h, _ => h.elim
  | _ :: _, [], h, _ => h.elim
  | _ :: _, _ :: _, h, hx => ⟨h.1.ext hx, zSR.ext h.2 hx⟩
theorem zSR.len {cad : Nat → Nat} {ws : va_W} : ∀ {st sr : List Value}, zSR cad ws st sr → sr.length = st.length
  | [], [], _ => rfl
  | [], _ :: _, h => h.elim
  | _ :: _, [], h => h.elim
  | _ :: _, _ :: _, h => by simp [zSR.len h.2]
theorem zSR.cons {cad : Nat → Nat} {ws : va_W} {v : Value} {st sr : List Value} (h : zSR cad ws (v :: st) sr) : ∃ V sr', sr = V :: sr' ∧ zV cad ws v V ∧ zSR cad ws st sr' := by
  cases sr with
  | nil => exact h.elim
  | cons V sr' => exact ⟨V, sr', rfl, h.1, h.2⟩
theorem zSR.nil {cad : Nat → Nat} {ws : va_W} {sr : List Value} (h : zSR cad ws [] sr) : sr = [] := by
  cases sr with
  | nil => rfl
  | cons V sr' => exact h.elim
theorem zV.cat {cad : Nat → Nat} {ws : va_W} {v V : Value} (h : zV cad ws v V) (h1 : ∀ x, v ≠ .long x) : V.category = 1 := by
  unfold zV at h
  cases v with
  | long x => exact absurd rfl (h1 x)
  | double x => exact h.elim
  | retAddr x => exact h.elim
  | ref k => obtain ⟨a, rfl, _⟩ := h; rfl
  | float x => rcases h with rfl | ⟨q, rfl⟩ <;> rfl
  | int x => rw [h]; rfl
  | null => rw [h]; rfl
theorem zV.catLe {cad : Nat → Nat} {ws : va_W} {v V : Value} (h : zV cad ws v V) : V.category ≤ 2 := by
  rcases lv_cat V with h | h <;> omega
theorem zSR.cats {cad : Nat → Nat} {ws : va_W} : ∀ {st sr : List Value}, zSR cad ws st sr → (sr.map fun v => v.category).sum ≤ 2 * st.length
  | [], [], _ => by simp
  | [], _ :: _, h => h.elim
  | _ :: _, [], h => h.elim
  | _ :: st, V :: sr, h => by
    have h1 := zV.catLe h.1
    have h2 := zSR.cats h.2
    simp only [List.map_cons, List.sum_cons, List.length_cons]
    omega
theorem zLR.load {cad : Nat → Nat} {ws : va_W} {ls : ZLo} {ar : Array Slot} (h : zLR cad ws ls ar) {i : Nat} {v : Value} (hv : ls[i]? = some (some v)) : ∃ V : Value, zV cad ws v V ∧ ar[i]? = some (Slot.val V) := h.2.2 i v hv
/-- a store of one word -/
theorem zLR.store1 {cad : Nat → Nat} {ws : va_W} {ls : ZLo} {ar : Array Slot} (h : zLR cad ws ls ar) {i : Nat} {v V : Value} (hi : i < ls.length) (hf : zfree ls i = true) (hV : zV cad ws v V) (hc : V.category = 1) :
    ∃ ar', storeLocals ar i V = some ar' ∧ zLR cad ws (ls.set i (some v)) ar' := by
  have hh : ∀ (j : Nat) (W : Value), ar[j]? = some (.val W) → lv_has ar ls.length [(j, W)] := fun j W hj => ⟨h.1, h.2.1, fun q hq => by
    cases List.mem_singleton.mp hq
    exact hj⟩
  have h0 : lv_has ar ls.length [] := ⟨h.1, h.2.1, fun q hq => nomatch hq⟩
  obtain ⟨ar', e', h'⟩ := lv_store1 (v := V) h0 hi hc
  refine ⟨ar', e', by rw [List.length_set]; exact h'.1, h'.2.1, fun j w hw => ?_⟩
  by_cases hj : i = j
  · subst hj
    rw [List.getElem?_set_self hi] at hw
    cases hw
    exact ⟨V, hV, h'.2.2 (i, V) List.mem_cons_self⟩
  · rw [List.getElem?_set_ne hj] at hw
    obtain ⟨W, hW, hjW⟩ := h.2.2 j w hw
    obtain ⟨ar2, e2, h2⟩ := lv_store1 (v := V) (hh j W hjW) hi hc
    cases Option.some.inj (e'.symm.trans e2)
    refine ⟨W, hW, h2.2.2 (j, W) (List.mem_cons_of_mem _ (List.mem_filter.mpr ⟨List.mem_singleton.mpr rfl, ?_⟩))⟩
    simp only [Bool.and_eq_true, Bool.not_eq_true', beq_eq_false_iff_ne, Bool.and_eq_false_iff, ne_eq]
    refine ⟨fun e => hj e.symm, ?_⟩
    by_cases hj1 : j + 1 = i
    · right
      intro hc2
      subst hj1
      cases w with
      | long x =>
        simp [zfree, hw] at hf
      | double x => exact hW.elim
      | _ => exact absurd (hW.cat (fun x => by simp)) (by omega)
    · left; exact hj1
theorem zLR.store2 {cad : Nat → Nat} {ws : va_W} {ls : ZLo} {ar : Array Slot} (h : zLR cad ws ls ar) {i : Nat} {x : Int64} (hi : i + 1 < ls.length) (hf : zfree ls i = true) :
    ∃ ar', storeLocals ar i (.long x) = some ar' ∧ zLR cad ws ((ls.set i (some (.long x))).set (i + 1) none) ar' := by
  have hh : ∀ (j : Nat) (W : Value), ar[j]? = some (.val W) → lv_has ar ls.length [(j, W)] := fun j W hj => ⟨h.1, h.2.1, fun q hq => by
    cases List.mem_singleton.mp hq
    exact hj⟩
  have h0 : lv_has ar ls.length [] := ⟨h.1, h.2.1, fun q hq => nomatch hq⟩
  obtain ⟨ar', e', h'⟩ := lv_store2 (v := .long x) h0 hi rfl
  refine ⟨ar', e', by rw [List.length_set, List.length_set]; exact h'.1, h'.2.1, fun j w hw => ?_⟩
  by_cases hj1 : i + 1 = j
  · subst hj1
    rw [List.getElem?_set_self (by rw [List.length_set]; exact hi)] at hw
    cases hw
  · rw [List.getElem?_set_ne hj1] at hw
    by_cases hj : i = j
    · subst hj
      rw [List.getElem?_set_self (by omega)] at hw
      cases hw
      exact ⟨.long x, rfl, h'.2.2 (i, .long x) List.mem_cons_self⟩
    · rw [List.getElem?_set_ne hj] at hw
      obtain ⟨W, hW, hjW⟩ := h.2.2 j w hw
      obtain ⟨ar2, e2, h2⟩ := lv_store2 (v := .long x) (hh j W hjW) hi rfl
      cases Option.some.inj (e'.symm.trans e2)
      refine ⟨W, hW, h2.2.2 (j, W) (List.mem_cons_of_mem _ (List.mem_filter.mpr ⟨List.mem_singleton.mpr rfl, ?_⟩))⟩
      simp only [Bool.and_eq_true, Bool.not_eq_true', beq_eq_false_iff_ne, Bool.and_eq_false_iff, ne_eq]
      refine ⟨fun e => hj e.symm, fun e => hj1 e.symm, ?_⟩
      by_cases hj2 : j + 1 = i
      · right
        intro hc2
        subst hj2
        cases w with
        | long x =>
          simp [zfree, hw] at hf
        | double x => exact hW.elim
        | _ => exact absurd (hW.cat (fun x => by simp)) (by omega)
      · left; exact hj2
