/-! Ways and their runs: the object's side -/
def jN (f : Nat → Int32) (n B : Nat) (h : Nat → Nat) : Prop := ∀ j, j < n → f j = nI (h j) ∧ h j ≤ B
def upn (f : Nat → Nat) (i v : Nat) : Nat → Nat := fun j => if j = i then v else f j
theorem upn_self {f : Nat → Nat} {i v : Nat} : upn f i v i = v := by
  unfold upn
  rw [if_pos rfl]
theorem upn_ne {f : Nat → Nat} {i j v : Nat} (h : j ≠ i) : upn f i v j = f j := by
  unfold upn
  rw [if_neg h]
theorem upn_same {f : Nat → Nat} {i j : Nat} : upn f i (f i) j = f j := by
  unfold upn
  split
  · rename_i h
    rw [h]
  · rfl
theorem jN.put {g : Nat → Int32} {n B : Nat} {h : Nat → Nat} (hh : jN g n B h) {i v : Nat} (hv : v ≤ B) : jN (upd g i (nI v)) n B (upn h i v) := fun j hj => by
  by_cases e : j = i
  · subst e
    rw [upd_self, upn_self]
    exact ⟨rfl, hv⟩
  · rw [upd_ne e, upn_ne e]
    exact hh j hj
theorem jN.ext {g : Nat → Int32} {n B : Nat} {h h' : Nat → Nat} (hh : jN g n B h) (e : ∀ j, h' j = h j) : jN g n B h' := fun j hj => by
  rw [e]
  exact hh j hj
/-- ints alone have changed, in the cells of l -/
def zJ (l : List Nat) (S S' : ZSt) : Prop := S'.2 = S.2 ∧ ∀ c, zmem c l = false → zI S' c = zI S c
theorem zJ.rf {l : List Nat} {S : ZSt} : zJ l S S := ⟨rfl, fun _ _ => rfl⟩
theorem zJ.tr {l : List Nat} {S S1 S2 : ZSt} (h1 : zJ l S S1) (h2 : zJ l S1 S2) : zJ l S S2 := ⟨h2.1.trans h1.1, fun c hc => (h2.2 c hc).trans (h1.2 c hc)⟩
theorem zJ.sh {l : List Nat} {S S1 : ZSt} (h : zJ l S S1) (hS : zSh S) : zSh S1 := zSh_of h.1 hS
theorem zJ.I {l : List Nat} {S S1 : ZSt} (h : zJ l S S1) {a k : Nat} {v : Int32} (ha : zmem a l = true) : zJ l S (zsI S1 a k v) := ⟨h.1, fun c hc => by
  rw [zI_ne _ _ (fun e => by rw [e, ha] at hc; cases hc)]
  exact h.2 c hc⟩
theorem zJ.W {l : List Nat} {S S1 : ZSt} (h : zJ l S S1) {a : Nat} {f : Nat → Int32} (ha : zmem a l = true) : zJ l S (zwI S1 a f) := ⟨h.1, fun c hc => by
  rw [show zI (zwI S1 a f) c = zI S1 c from zup_ne (fun e => by rw [e, ha] at hc; cases hc)]
  exact h.2 c hc⟩
/-- a way, as numbers: n acts, their kinds, their numbers -/
def zWy (n : Nat) (kd fa fb : Nat → Nat) : Prop := 0 < n ∧ n ≤ 24 ∧ ∀ k, k < n → kd k ≤ 11 ∧ (kd k ≤ 4 → fa k < 12) ∧ (5 ≤ kd k → kd k ≤ 8 → fa k < 24) ∧ (kd k = 9 → fa k ≤ 24) ∧ (kd k = 10 → fa k ≤ 3) ∧ (2 ≤ kd k → kd k ≤ 3 → fb k < 12 ∧ fa k ≠ fb k) ∧ (kd k = 4 ∨ kd k = 7 ∨ kd k = 8 → fb k ≤ 24)
def eA (k a : Nat) : Int32 := if k = 11 then - nI 1 else nI a
def eB (k b : Nat) : Int32 := if k = 2 ∨ k = 3 ∨ k = 4 ∨ k = 7 ∨ k = 8 then nI b else - nI 1
theorem eA_n {k a : Nat} (h : k ≤ 10) : eA k a = nI a := by
  unfold eA
  rw [if_neg (by omega)]
theorem eB_n {k b : Nat} (h : k = 2 ∨ k = 3 ∨ k = 4 ∨ k = 7 ∨ k = 8) : eB k b = nI b := by
  unfold eB
  rw [if_pos h]
def zArr (S : ZSt) (c n : Nat) : Prop := zc S c = 100 ∧ zn S c = n
/-- the object's way at o -/
def jWO (S : ZSt) (o ra rb rc n : Nat) (kd fa fb : Nat → Nat) : Prop := zc S o = 9 ∧ zI S o 3 = nI n ∧ (zR S o 0 = some ra ∧ zR S o 1 = some rb ∧ zR S o 2 = some rc) ∧ (zArr S ra 24 ∧ zArr S rb 24 ∧ zArr S rc 24) ∧ ∀ k, k < n → zI S ra k = nI (kd k) ∧ zI S rb k = eA (kd k) (fa k) ∧ zI S rc k = eB (kd k) (fb k)
/-- the reference's way of the number q -/
def jWM (S : ZSt) (q n : Nat) (kd fa fb : Nat → Nat) : Prop := zI S 136 q = nI n ∧ ∀ k, k < n → zI S 137 (24 * q + k) = nI (kd k) ∧ zI S 138 (24 * q + k) = eA (kd k) (fa k) ∧ zI S 139 (24 * q + k) = eB (kd k) (fb k)
def zNo (l : List Nat) (c : Nat) : Prop := zmem c l = false
theorem jWO.J {l : List Nat} {S S1 : ZSt} {o ra rb rc n : Nat} {kd fa fb : Nat → Nat} (h : jWO S o ra rb rc n kd fa fb) (j : zJ l S S1) (n0 : zNo l o) (n1 : zNo l ra) (n2 : zNo l rb) (n3 : zNo l rc) : jWO S1 o ra rb rc n kd fa fb := by
  obtain ⟨j1, j2⟩ := j
  unfold jWO zArr zc zn zR
  rw [j1, j2 o n0, j2 ra n1, j2 rb n2, j2 rc n3]
  exact h
theorem jWM.J {l : List Nat} {S S1 : ZSt} {q n : Nat} {kd fa fb : Nat → Nat} (h : jWM S q n kd fa fb) (j : zJ l S S1) (n0 : (zmem 136 l || (zmem 137 l || (zmem 138 l || zmem 139 l))) = false) : jWM S1 q n kd fa fb := by
  obtain ⟨a, b⟩ := Bool.or_eq_false_iff.mp n0
  obtain ⟨b, c⟩ := Bool.or_eq_false_iff.mp b
  obtain ⟨c, d⟩ := Bool.or_eq_false_iff.mp c
  unfold jWM
  rw [j.2 136 a, j.2 137 b, j.2 138 c, j.2 139 d]
  exact h
/-- an act done -/
def dox (k a b : Nat) (h p : Nat → Nat) : Option ((Nat → Nat) × (Nat → Nat)) :=
  if k = 0 then (if h a < 1000000000 then some (upn h a (h a + 1), p) else none)
  else if k = 1 then (if 0 < h a then some (upn h a (h a - 1), p) else none)
  else if k = 2 then (if 0 < h a ∧ h b < 1000000000 then some (upn (upn h a (h a - 1)) b (h b + 1), p) else none)
  else if k = 3 then (if 0 < h a ∧ 0 < h b then some (upn (upn h a (h a - 1)) b (h b - 1), p) else none)
  else if k = 5 then (if p a < 3 then some (h, upn p a (p a + 1)) else none)
  else if k = 6 then (if 0 < p a then some (h, upn p a (p a - 1)) else none)
  else some (h, p)
/-- where it goes on -/
def nx (k a b t : Nat) (h p : Nat → Nat) : Nat :=
  if k = 4 then (if h a = 0 then b else t + 1) else if k = 7 then (if p a = 0 then b else t + 1) else if k = 8 then (if p a = 3 then b else t + 1) else if k = 9 then a else t + 1
/-- a run: heaps, places, where it stands, acts, how it ends, what was said -/
def go (n : Nat) (kd fa fb : Nat → Nat) : Nat → (Nat → Nat) → (Nat → Nat) → Nat → Nat → (Nat → Nat) × (Nat → Nat) × Nat × Nat × Nat × Nat
  | 0, h, p, t, m => (h, p, t, m, 3, 9)
  | f + 1, h, p, t, m => match dox (kd t) (fa t) (fb t) h p with
    | none => (h, p, t, m, 2, 9)
    | some q => if kd t = 10 then (q.1, q.2, t, m + 1, 1, fa t) else if kd t = 11 then (q.1, q.2, t, m + 1, 0, 9)
      else if n ≤ nx (kd t) (fa t) (fb t) t q.1 q.2 then (q.1, q.2, nx (kd t) (fa t) (fb t) t q.1 q.2, m + 1, 0, 9)
      else go n kd fa fb f q.1 q.2 (nx (kd t) (fa t) (fb t) t q.1 q.2) (m + 1)
def jR (S : ZSt) (r : (Nat → Nat) × (Nat → Nat) × Nat × Nat × Nat × Nat) : Prop := jN (zI S 108) 12 1000000000 r.1 ∧ jN (zI S 109) 24 3 r.2.1 ∧ zI S 106 3 = nI r.2.2.1 ∧ zI S 106 4 = nI r.2.2.2.1 ∧ zI S 106 5 = nI r.2.2.2.2.1 ∧ zI S 106 6 = nI r.2.2.2.2.2
theorem jR.ext {S : ZSt} {h h' p p' : Nat → Nat} {x : Nat × Nat × Nat × Nat} (hr : jR S (h, p, x)) (e : ∀ j, h' j = h j) (e' : ∀ j, p' j = p j) : jR S (h', p', x) := ⟨hr.1.ext e, hr.2.1.ext e', hr.2.2⟩
theorem nEq {a b : Nat} (ha : a < 1000000) (hb : b < 1000000) (h : nI a = nI b) : a = b := (nI_eq (by omega) (by omega)).mp h
/-- one more, one less -/
theorem w_Ru_up {c N a x M : Nat} {S : ZSt} {Q : ZOut → ZSt → Prop} (hS : zSh S) (hc : zArr S c N) (hN : N < 100) (ha : a < N) (e : zI S c a = nI x) (hx : x ≤ M) (hM : M ≤ 1000000000) (h1 : x < M → Q (.inl (some (.int (nI 1)))) (zsI S c a (nI (x + 1)))) (h2 : x = M → Q (.inl (some (.int (nI 0)))) S) : zC m_Ru_isChanged [.ref c, .int (nI a), .int (nI 1), .int (nI M)] S Q := by
  obtain ⟨hc, hn⟩ := hc
  refine b_Ru_isChanged hS ?_
  rw [hn, zcl9 (by omega), e, nI_add]
  have hi : vp_in (nI a) N := zin ha (by omega)
  refine ⟨fun h9 => absurd h9 (nI_pos (by omega)), fun _ => ⟨hc, fun h9 => absurd h9 (nI_ge ha (by omega)), fun _ => ⟨hc, hi, fun h9 => absurd h9 (nI_pos (by omega)), fun _ => ⟨hc, hi, fun h9 => ⟨hc, hi, hc, hi, rfl, h1 ?_⟩, fun h9 => ⟨rfl, h2 ?_⟩⟩⟩⟩⟩
  · have := (nI_leI (by omega) (by omega)).mp h9
    omega
  · by_cases h8 : x + 1 ≤ M
    · exact absurd (nI_le h8 (by omega)) h9
    · omega
theorem nI_dn {x : Nat} (h : 0 < x) : nI x + - nI 1 = nI (x - 1) := by
  rw [← Int32.sub_eq_add_neg]
  exact zsub1 h
theorem w_Ru_dn {c N a x M : Nat} {S : ZSt} {Q : ZOut → ZSt → Prop} (hS : zSh S) (hc : zArr S c N) (hN : N < 100) (ha : a < N) (e : zI S c a = nI x) (hx : x ≤ M) (hM : M ≤ 1000000000) (h1 : 0 < x → Q (.inl (some (.int (nI 1)))) (zsI S c a (nI (x - 1)))) (h2 : x = 0 → Q (.inl (some (.int (nI 0)))) S) : zC m_Ru_isChanged [.ref c, .int (nI a), .int (- nI 1), .int (nI M)] S Q := by
  obtain ⟨hc, hn⟩ := hc
  refine b_Ru_isChanged hS ?_
  rw [hn, zcl9 (by omega), e]
  have hi : vp_in (nI a) N := zin ha (by omega)
  by_cases hp : 0 < x
  · rw [nI_dn hp]
    exact ⟨fun h9 => absurd h9 (nI_pos (by omega)), fun _ => ⟨hc, fun h9 => absurd h9 (nI_ge ha (by omega)), fun _ => ⟨hc, hi, fun h9 => absurd h9 (nI_pos (by omega)), fun _ => ⟨hc, hi, fun h9 => ⟨hc, hi, hc, hi, rfl, h1 hp⟩, fun h9 => absurd (nI_le (by omega) (by omega)) h9⟩⟩⟩⟩
  · obtain rfl : x = 0 := by omega
    exact ⟨fun h9 => absurd h9 (nI_pos (by omega)), fun _ => ⟨hc, fun h9 => absurd h9 (nI_ge ha (by omega)), fun _ => ⟨hc, hi, fun h9 => ⟨rfl, h2 rfl⟩, fun h9 => absurd (by decide) h9⟩⟩⟩
theorem w_N_isNot0 {v lo hi : Int32} {S : ZSt} {Q : ZOut → ZSt → Prop} (hS : zSh S) (h1 : ¬ v < lo) (h2 : v ≤ hi) (h : Q (.inl (some (.int (nI 0)))) S) : zC m_N_isNot [.int v, .int lo, .int hi] S Q := b_N_isNot hS ⟨fun h9 => absurd h9 h1, fun _ => ⟨fun _ => ⟨rfl, h⟩, fun h9 => absurd h2 h9⟩⟩
theorem zA_of {S : ZSt} (hS : zSh S) {c n : Nat} (h : (Nat.blt c 162 && (Nat.blt 74 c && (Nat.beq (zTc c) 100 && Nat.beq (zTn c) n))) = true) : zArr S c n := by
  obtain ⟨h1, h2⟩ := zand h
  obtain ⟨h2, h3⟩ := zand h2
  obtain ⟨h3, h4⟩ := zand h3
  have h1 : c < 162 := Nat.le_of_ble_eq_true h1
  have h2 : 74 < c := Nat.le_of_ble_eq_true h2
  have h3 := Nat.eq_of_beq_eq_true h3
  have h4 := Nat.eq_of_beq_eq_true h4
  exact ⟨(hS.1 c (by omega)).trans h3, (hS.2.1 c (by omega) (by omega)).trans h4⟩
theorem w_Ru_move {a b : Nat} {h : Nat → Nat} {S : ZSt} {Q : ZOut → ZSt → Prop} (hS : zSh S) (hH : jN (zI S 108) 12 1000000000 h) (ha : a < 12) (hb : b < 12) (hab : a ≠ b)
    (h1 : 0 < h a ∧ h b < 1000000000 → ∀ S', zJ [108, 109] S S' → zI S' 109 = zI S 109 → jN (zI S' 108) 12 1000000000 (upn (upn h a (h a - 1)) b (h b + 1)) → Q (.inl (some (.int (nI 1)))) S') (h2 : ¬ (0 < h a ∧ h b < 1000000000) → ∀ S', zJ [108, 109] S S' → zI S' 109 = zI S 109 → jN (zI S' 108) 12 1000000000 h → Q (.inl (some (.int (nI 0)))) S') : zC m_Ru_areChanged [.ref 106, .int (nI a), .int (nI b), .int (nI 1)] S Q := by
  have cH : zArr S 108 12 := zA_of hS rfl
  obtain ⟨ea, ba⟩ := hH a ha
  obtain ⟨eb, bb⟩ := hH b hb
  refine b_Ru_areChanged hS (w_Ru_dn hS cH (by omega) ha ea ba (by omega) (fun p1 => b_Ru_areChanged_6 hS ⟨fun _ => ?_, fun h9 => absurd (by decide) h9⟩) (fun p1 => b_Ru_areChanged_6 hS ⟨fun h9 => absurd (by decide) h9, fun _ => ⟨rfl, h2 (by omega) S zJ.rf rfl hH⟩⟩))
  have e1 : zI (zsI S 108 a (nI (h a - 1))) 108 b = nI (h b) := by
    rw [zI_eq, upd_ne (Ne.symm hab)]
    exact eb
  refine w_Ru_up (S := zsI S 108 a (nI (h a - 1))) hS (zA_of hS rfl) (by omega) hb e1 bb (by omega) (fun p2 => b_Ru_areChanged_15 hS ⟨fun h9 => absurd h9 (by decide), fun _ => ⟨rfl, h1 ⟨p1, p2⟩ _ ((zJ.rf.I rfl).I rfl) rfl ?_⟩⟩) (fun p2 => b_Ru_areChanged_15 hS ⟨fun _ => ?_, fun h9 => absurd (by decide) h9⟩)
  · rw [zI_eq, zI_eq]
    exact (hH.put (by omega)).put (by omega)
  · refine w_Ru_up (S := zsI S 108 a (nI (h a - 1))) (x := h a - 1) hS (zA_of hS rfl) (by omega) ha (by rw [zI_eq, upd_self]) (by omega) (by omega) (fun p3 => b_Ru_areChanged_24 hS ⟨rfl, h2 (by omega) _ ((zJ.rf.I rfl).I rfl) rfl ?_⟩) (fun p3 => by omega)
    rw [zI_eq, zI_eq]
    refine ((hH.put (i := a) (v := h a - 1) (by omega)).put (i := a) (v := h a - 1 + 1) (by omega)).ext (fun j => ?_)
    rw [show h a - 1 + 1 = h a by omega]
    by_cases e : j = a
    · rw [e, upn_self]
    · rw [upn_ne e, upn_ne e]
theorem w_Ru_pair {a b : Nat} {h : Nat → Nat} {S : ZSt} {Q : ZOut → ZSt → Prop} (hS : zSh S) (hH : jN (zI S 108) 12 1000000000 h) (ha : a < 12) (hb : b < 12) (hab : a ≠ b)
    (h1 : 0 < h a ∧ 0 < h b → ∀ S', zJ [108, 109] S S' → zI S' 109 = zI S 109 → jN (zI S' 108) 12 1000000000 (upn (upn h a (h a - 1)) b (h b - 1)) → Q (.inl (some (.int (nI 1)))) S') (h2 : ¬ (0 < h a ∧ 0 < h b) → ∀ S', zJ [108, 109] S S' → zI S' 109 = zI S 109 → jN (zI S' 108) 12 1000000000 h → Q (.inl (some (.int (nI 0)))) S') : zC m_Ru_areChanged [.ref 106, .int (nI a), .int (nI b), .int (- nI 1)] S Q := by
  have cH : zArr S 108 12 := zA_of hS rfl
  obtain ⟨ea, ba⟩ := hH a ha
  obtain ⟨eb, bb⟩ := hH b hb
  refine b_Ru_areChanged hS (w_Ru_dn hS cH (by omega) ha ea ba (by omega) (fun p1 => b_Ru_areChanged_6 hS ⟨fun _ => ?_, fun h9 => absurd (by decide) h9⟩) (fun p1 => b_Ru_areChanged_6 hS ⟨fun h9 => absurd (by decide) h9, fun _ => ⟨rfl, h2 (by omega) S zJ.rf rfl hH⟩⟩))
  have e1 : zI (zsI S 108 a (nI (h a - 1))) 108 b = nI (h b) := by
    rw [zI_eq, upd_ne (Ne.symm hab)]
    exact eb
  refine w_Ru_dn (S := zsI S 108 a (nI (h a - 1))) hS (zA_of hS rfl) (by omega) hb e1 bb (by omega) (fun p2 => b_Ru_areChanged_15 hS ⟨fun h9 => absurd h9 (by decide), fun _ => ⟨rfl, h1 ⟨p1, p2⟩ _ ((zJ.rf.I rfl).I rfl) rfl ?_⟩⟩) (fun p2 => b_Ru_areChanged_15 hS ⟨fun _ => ?_, fun h9 => absurd (by decide) h9⟩)
  · rw [zI_eq, zI_eq]
    exact (hH.put (by omega)).put (by omega)
  · refine w_Ru_up (S := zsI S 108 a (nI (h a - 1))) (x := h a - 1) hS (zA_of hS rfl) (by omega) ha (by rw [zI_eq, upd_self]) (by omega) (by omega) (fun p3 => b_Ru_areChanged_24 hS ⟨rfl, h2 (by omega) _ ((zJ.rf.I rfl).I rfl) rfl ?_⟩) (fun p3 => by omega)
    rw [zI_eq, zI_eq]
    refine ((hH.put (i := a) (v := h a - 1) (by omega)).put (i := a) (v := h a - 1 + 1) (by omega)).ext (fun j => ?_)
    rw [show h a - 1 + 1 = h a by omega]
    by_cases e : j = a
    · rw [e, upn_self]
    · rw [upn_ne e, upn_ne e]
theorem dox_id {k a b : Nat} {h p : Nat → Nat} (hk : k = 4 ∨ 7 ≤ k) : dox k a b h p = some (h, p) := by
  unfold dox
  rw [if_neg (by omega), if_neg (by omega), if_neg (by omega), if_neg (by omega), if_neg (by omega), if_neg (by omega)]
theorem w_Ru_isDone {o ra rb rc n t : Nat} {kd fa fb : Nat → Nat} {h p : Nat → Nat} {S : ZSt} {Q : ZOut → ZSt → Prop} (hS : zSh S) (hW : zWy n kd fa fb) (hw : jWO S o ra rb rc n kd fa fb) (ht : t < n) (et : zI S 106 3 = nI t) (hH : jN (zI S 108) 12 1000000000 h) (hP : jN (zI S 109) 24 3 p)
    (hok : ∀ q, dox (kd t) (fa t) (fb t) h p = some q → ∀ S', zJ [108, 109] S S' → jN (zI S' 108) 12 1000000000 q.1 → jN (zI S' 109) 24 3 q.2 → Q (.inl (some (.int (nI 1)))) S')
    (hno : dox (kd t) (fa t) (fb t) h p = none → ∀ S', zJ [108, 109] S S' → jN (zI S' 108) 12 1000000000 h → jN (zI S' 109) 24 3 p → Q (.inl (some (.int (nI 0)))) S') : zC m_Ru_isDone [.ref 106, .ref o] S Q := by
  obtain ⟨hn0, hn, hk⟩ := hW
  obtain ⟨hk1, hk2, hk3, hk4, hk5, hk6, hk7⟩ := hk t ht
  obtain ⟨w1, w2, ⟨r1, r2, r3⟩, ⟨⟨c1, n1⟩, ⟨c2, n2⟩, ⟨c3, n3⟩⟩, w5⟩ := hw
  obtain ⟨k1, k2, k3⟩ := w5 t ht
  have cH : zArr S 108 12 := zA_of hS rfl
  have cP : zArr S 109 24 := zA_of hS rfl
  refine b_Ru_isDone hS ⟨w1, ?_⟩
  rw [et, w2, zsub1 hn0]
  refine w_N_isNot0 hS (nI_nlt (by omega) (by omega)) (nI_le (by omega) (by omega)) ?_
  refine b_Ru_isDone_8 hS ?_
  rw [et, zcl9 (by omega)]
  refine ⟨fun h9 => absurd (by decide) h9, fun _ => ⟨fun _ => ⟨w1, rb, r2, c2, by rw [n2]; exact zin (by omega) (by omega), w1, rc, r3, c3, by rw [n3]; exact zin (by omega) (by omega), w1, ra, r1, c1, by rw [n1]; exact zin (by omega) (by omega), ?_⟩, fun h9 => absurd (nI_lt (by omega) (by omega)) h9⟩⟩
  rw [k1, k2, k3]
  refine ⟨⟨fun e => ?_, fun e => ?_, fun e => ?_, fun e => ?_, fun e => ?_, fun e => ?_, fun e => ?_, trivial⟩, fun e => ?_⟩
  · have k0 : kd t = 0 := nEq (by omega) (by omega) e
    have ha := hk2 (by omega)
    rw [eA_n (by omega)]
    have hd : dox (kd t) (fa t) (fb t) h p = if h (fa t) < 1000000000 then some (upn h (fa t) (h (fa t) + 1), p) else none := by rw [k0]; rfl
    rw [hd] at hok hno
    exact w_Ru_up hS cH (by omega) ha (hH _ ha).1 (hH _ ha).2 (by omega) (fun h1 => b_Ru_isDone_39 hS ⟨rfl, hok _ (if_pos h1) _ (zJ.rf.I rfl) (by rw [zI_eq]; exact hH.put (by omega)) (by rw [zI_ne _ _ (by omega)]; exact hP)⟩) (fun h1 => b_Ru_isDone_39 hS ⟨rfl, hno (if_neg (by omega)) _ zJ.rf hH hP⟩)
  · have k0 : kd t = 1 := nEq (by omega) (by omega) e
    have ha := hk2 (by omega)
    rw [eA_n (by omega)]
    have hd : dox (kd t) (fa t) (fb t) h p = if 0 < h (fa t) then some (upn h (fa t) (h (fa t) - 1), p) else none := by rw [k0]; rfl
    rw [hd] at hok hno
    have hb := (hH _ ha).2
    exact w_Ru_dn hS cH (by omega) ha (hH _ ha).1 hb (by omega) (fun h1 => b_Ru_isDone_46 hS ⟨rfl, hok _ (if_pos h1) _ (zJ.rf.I rfl) (by rw [zI_eq]; exact hH.put (by omega)) (by rw [zI_ne _ _ (by omega)]; exact hP)⟩) (fun h1 => b_Ru_isDone_46 hS ⟨rfl, hno (if_neg (by omega)) _ zJ.rf hH hP⟩)
  · have k0 : kd t = 2 := nEq (by omega) (by omega) e
    have ha := hk2 (by omega)
    obtain ⟨hb, hab⟩ := hk6 (by omega) (by omega)
    rw [eA_n (by omega), eB_n (by omega)]
    have hd : dox (kd t) (fa t) (fb t) h p = if 0 < h (fa t) ∧ h (fb t) < 1000000000 then some (upn (upn h (fa t) (h (fa t) - 1)) (fb t) (h (fb t) + 1), p) else none := by rw [k0]; rfl
    rw [hd] at hok hno
    exact w_Ru_move hS hH ha hb hab (fun h1 S' j e9 hh => b_Ru_isDone_52 (j.sh hS) ⟨rfl, hok _ (if_pos h1) _ j hh (by rw [e9]; exact hP)⟩) (fun h1 S' j e9 hh => b_Ru_isDone_52 (j.sh hS) ⟨rfl, hno (if_neg h1) _ j hh (by rw [e9]; exact hP)⟩)
  · have k0 : kd t = 3 := nEq (by omega) (by omega) e
    have ha := hk2 (by omega)
    obtain ⟨hb, hab⟩ := hk6 (by omega) (by omega)
    rw [eA_n (by omega), eB_n (by omega)]
    have hd : dox (kd t) (fa t) (fb t) h p = if 0 < h (fa t) ∧ 0 < h (fb t) then some (upn (upn h (fa t) (h (fa t) - 1)) (fb t) (h (fb t) - 1), p) else none := by rw [k0]; rfl
    rw [hd] at hok hno
    exact w_Ru_pair hS hH ha hb hab (fun h1 S' j e9 hh => b_Ru_isDone_58 (j.sh hS) ⟨rfl, hok _ (if_pos h1) _ j hh (by rw [e9]; exact hP)⟩) (fun h1 S' j e9 hh => b_Ru_isDone_58 (j.sh hS) ⟨rfl, hno (if_neg h1) _ j hh (by rw [e9]; exact hP)⟩)
  · have k0 : kd t = 4 := nEq (by omega) (by omega) e
    exact ⟨rfl, hok _ (dox_id (by omega)) _ zJ.rf hH hP⟩
  · have k0 : kd t = 5 := nEq (by omega) (by omega) e
    have ha := hk3 (by omega) (by omega)
    rw [eA_n (by omega)]
    have hd : dox (kd t) (fa t) (fb t) h p = if p (fa t) < 3 then some (h, upn p (fa t) (p (fa t) + 1)) else none := by rw [k0]; rfl
    rw [hd] at hok hno
    exact w_Ru_up hS cP (by omega) ha (hP _ ha).1 (hP _ ha).2 (by omega) (fun h1 => b_Ru_isDone_65 hS ⟨rfl, hok _ (if_pos h1) _ (zJ.rf.I rfl) (by rw [zI_ne _ _ (by omega)]; exact hH) (by rw [zI_eq]; exact hP.put (by omega))⟩) (fun h1 => b_Ru_isDone_65 hS ⟨rfl, hno (if_neg (by omega)) _ zJ.rf hH hP⟩)
  · have k0 : kd t = 6 := nEq (by omega) (by omega) e
    have ha := hk3 (by omega) (by omega)
    rw [eA_n (by omega)]
    have hd : dox (kd t) (fa t) (fb t) h p = if 0 < p (fa t) then some (h, upn p (fa t) (p (fa t) - 1)) else none := by rw [k0]; rfl
    rw [hd] at hok hno
    have hb := (hP _ ha).2
    exact w_Ru_dn hS cP (by omega) ha (hP _ ha).1 hb (by omega) (fun h1 => b_Ru_isDone_72 hS ⟨rfl, hok _ (if_pos h1) _ (zJ.rf.I rfl) (by rw [zI_ne _ _ (by omega)]; exact hH) (by rw [zI_eq]; exact hP.put (by omega))⟩) (fun h1 => b_Ru_isDone_72 hS ⟨rfl, hno (if_neg (by omega)) _ zJ.rf hH hP⟩)
  · rw [nI_toInt (by omega)] at e
    exact ⟨rfl, hok _ (dox_id (by omega)) _ zJ.rf hH hP⟩
