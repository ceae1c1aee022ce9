/-! Calls that ask: the object's and the reference's side apart -/
def lO : List Nat := [106, 107, 108, 109, 110, 111, 112, 113, 114, 115, 116, 117, 118, 119, 120, 121, 122, 123, 124, 125, 126, 127, 128, 129]
def lM : List Nat := [130, 136, 137, 138, 139, 144, 145, 146, 147, 148, 149, 150, 151, 152, 153, 154, 155, 156, 157, 158, 159, 160]
def lQ : List Nat := [105, 106, 107, 108, 109, 110, 111, 112, 113, 114, 115, 116, 117, 118, 119, 120, 121, 122, 123, 124, 125, 126, 127, 128, 129, 131, 130, 136, 137, 138, 139, 144, 145, 146, 147, 148, 149, 150, 151, 152, 153, 154, 155, 156, 157, 158, 159, 160]
def zSwp (f : Nat → Option Nat) : Prop := (f 1 = some 127 ∧ f 2 = some 128) ∨ (f 1 = some 128 ∧ f 2 = some 127)
def zStk (S : ZSt) (c : Nat) : Prop := ∃ o, o ≠ 125 ∧ zc S o = 5 ∧ zR S o 2 = some c
def zStD (S : ZSt) : Prop := ∀ c, zStk S c → 162 ≤ c
/-- ints in the cells of l and in tasks' stacks, longs, and the two rows that change places -/
def zH (l : List Nat) (S S' : ZSt) : Prop := S'.2.2.2 = S.2.2.2 ∧ (∀ c, c ≠ 125 → zR S' c = zR S c) ∧ (zSwp (zR S 125) → zSwp (zR S' 125)) ∧ ∀ c, zmem c l = false → ¬ zStk S c → zI S' c = zI S c
theorem zStk_of {S S1 : ZSt} (h1 : zc S1 = zc S) (h2 : ∀ c, c ≠ 125 → zR S1 c = zR S c) {c : Nat} (h : zStk S1 c) : zStk S c := by
  obtain ⟨o, h3, h4, h5⟩ := h
  exact ⟨o, h3, by rw [← h1]; exact h4, by rw [← h2 o h3]; exact h5⟩
theorem zH.c {l : List Nat} {S S1 : ZSt} (h : zH l S S1) : zc S1 = zc S := by show S1.2.2.2.2.1 = S.2.2.2.2.1; rw [h.1]
theorem zH.stk {l : List Nat} {S S1 : ZSt} (h : zH l S S1) {c : Nat} (hc : zStk S1 c) : zStk S c := zStk_of h.c h.2.1 hc
theorem zH.D {l : List Nat} {S S1 : ZSt} (h : zH l S S1) (hD : zStD S) : zStD S1 := fun c hc => hD c (h.stk hc)
theorem zH.at {l : List Nat} {S S1 : ZSt} (h : zH l S S1) (hD : zStD S) {c : Nat} (hl : (!zmem c l && Nat.blt c 162) = true) : zI S1 c = zI S c := by
  obtain ⟨h1, h2⟩ := zand hl
  have h3 : c < 162 := Nat.le_of_ble_eq_true h2
  refine h.2.2.2 c ?_ (fun h9 => by have := hD c h9; omega)
  cases hb : zmem c l with
  | false => rfl
  | true =>
    rw [hb] at h1
    cases h1
theorem zH.rf {l : List Nat} {S : ZSt} : zH l S S := ⟨rfl, fun _ _ => rfl, id, fun _ _ _ => rfl⟩
theorem zH.tr {l : List Nat} {S S1 S2 : ZSt} (h1 : zH l S S1) (h2 : zH l S1 S2) : zH l S S2 := ⟨h2.1.trans h1.1, fun c hc => (h2.2.1 c hc).trans (h1.2.1 c hc), fun h => h2.2.2.1 (h1.2.2.1 h), fun c hc hs => (h2.2.2.2 c hc (fun h9 => hs (h1.stk h9))).trans (h1.2.2.2 c hc hs)⟩
theorem zH.sub {l l' : List Nat} {S S1 : ZSt} (h : zH l S S1) (hl : ∀ c, zmem c l' = false → zmem c l = false) : zH l' S S1 := ⟨h.1, h.2.1, h.2.2.1, fun c hc hs => h.2.2.2 c (hl c hc) hs⟩
theorem zJ.h {l : List Nat} {S S1 : ZSt} (h : zJ l S S1) : zH l S S1 := by
  have e : zR S1 = zR S := by
    unfold zR
    rw [h.1]
  exact ⟨by rw [h.1], fun c _ => by rw [e], fun h9 => by rw [e]; exact h9, fun c hc _ => h.2 c hc⟩
theorem zJ.hs {l : List Nat} {rs : Nat} {S S1 : ZSt} (h : zJ [rs] S S1) (hs : zStk S rs) : zH l S S1 := by
  have e : zR S1 = zR S := by
    unfold zR
    rw [h.1]
  refine ⟨by rw [h.1], fun c _ => by rw [e], fun h9 => by rw [e]; exact h9, fun c hc hn => h.2 c (zmemC (fun e => hn (by rw [e]; exact hs)) rfl)⟩
theorem zJ.hO {l : List Nat} {S S1 : ZSt} (h : zJ l S S1) (hl : l.all (fun x => zmem x lO) = true) : zH lO S S1 := h.h.sub (zsub_of hl)
theorem zJ.hM {l : List Nat} {S S1 : ZSt} (h : zJ l S S1) (hl : l.all (fun x => zmem x lM) = true) : zH lM S S1 := h.h.sub (zsub_of hl)
theorem zmem_big {b c : Nat} {l : List Nat} (hl : l.all (fun x => Nat.blt x b) = true) (hc : b ≤ c) : zmem c l = false := by
  induction l with
  | nil => rfl
  | cons a l ih =>
    have h' : (Nat.blt a b && l.all (fun x => Nat.blt x b)) = true := hl
    obtain ⟨h1, h2⟩ := zand h'
    have h3 : a < b := Nat.le_of_ble_eq_true h1
    exact zmemC (by omega) (ih h2)
def zKM (S S' : ZSt) : Prop := (∀ j, zmem j zKeys = true → zI S' 130 j = zI S 130 j) ∧ (∀ q, q < 6 → zI S' 136 q = zI S 136 q) ∧ ∀ q, q < 144 → zI S' 137 q = zI S 137 q ∧ zI S' 138 q = zI S 138 q ∧ zI S' 139 q = zI S 139 q
theorem zKM.rf {S : ZSt} : zKM S S := ⟨fun _ _ => rfl, fun _ _ => rfl, fun _ _ => ⟨rfl, rfl, rfl⟩⟩
theorem zKM.tr {S S1 S2 : ZSt} (h1 : zKM S S1) (h2 : zKM S1 S2) : zKM S S2 := ⟨fun j hj => (h2.1 j hj).trans (h1.1 j hj), fun j hj => (h2.2.1 j hj).trans (h1.2.1 j hj), fun j hj => ⟨(h2.2.2 j hj).1.trans (h1.2.2 j hj).1, (h2.2.2 j hj).2.1.trans (h1.2.2 j hj).2.1, (h2.2.2 j hj).2.2.trans (h1.2.2 j hj).2.2⟩⟩
/-- ways as they were -/
theorem zKM.of {l : List Nat} {S S1 : ZSt} (h : zJ l S S1) (n0 : (zmem 136 l || (zmem 137 l || (zmem 138 l || zmem 139 l))) = false) (hk : ∀ j, zmem j zKeys = true → zI S1 130 j = zI S 130 j) : zKM S S1 := by
  obtain ⟨a, b⟩ := Bool.or_eq_false_iff.mp n0
  obtain ⟨b, c⟩ := Bool.or_eq_false_iff.mp b
  obtain ⟨c, d⟩ := Bool.or_eq_false_iff.mp c
  exact ⟨hk, fun q _ => by rw [h.2 136 a], fun q _ => ⟨by rw [h.2 137 b], by rw [h.2 138 c], by rw [h.2 139 d]⟩⟩
abbrev ZRes : Type := (Nat × Nat) ⊕ Int32
def xk (r : Nat) : Nat := if r = 0 then 3 else if r = 1 then 1 else if r = 2 then 0 else 2
/-- what the object does: it refuses (kind, code), or answers -/
def zOb (S : ZSt) (res : ZRes) (o : ZOut) (S1 : ZSt) : Prop := match res with
  | .inl (r, _) => o = .inr (xk r) ∧ ∃ Sc, zH lO S Sc ∧ zSh Sc ∧ S1 = zThr (zsI Sc 105 r (zI Sc 105 r + nI 1))
  | .inr v => o = .inl (some (.int v)) ∧ zH lO S S1 ∧ zSh S1
def zMo (T : ZSt) (res : ZRes) (o : ZOut) (S1 : ZSt) : Prop := match res with
  | .inl (r, kk) => ∃ T1, o = .inl (some (.int (nI 0))) ∧ zH lM T T1 ∧ zSh T1 ∧ zL T1 161 = zL T 161 ∧ zKM T T1 ∧ S1 = zsI (zsI T1 130 0 (nI kk)) 131 r (zI T1 131 r + nI 1)
  | .inr v => o = .inl (some (.int v)) ∧ zH lM T S1 ∧ zSh S1 ∧ zL S1 161 = zL T 161 ∧ zKM T S1 ∧ zI S1 130 0 = nI 0
def zPost (S S2 : ZSt) : Prop := (∀ c, zmem c lQ = false → ¬ zStk S c → zI S2 c = zI S c) ∧ zKM S S2 ∧ (∀ c, c ≠ 125 → zR S2 c = zR S c) ∧ (zSwp (zR S 125) → zSwp (zR S2 125)) ∧ zn S2 = zn S ∧ zc S2 = zc S ∧ zx S2 = zx S ∧ zu S2 ≤ zu S + 1 ∧ zz S2 ≤ zz S + 50 ∧ zSh S2 ∧ jCore S2
def zAns4 (S : ZSt) : Int32 → Value → ZSt → Prop := fun kk b S2 => ∃ b' : Int32, b = .int b' ∧ zI S2 130 0 = kk ∧ (kk = nI 0 → zL S2 161 0 = b'.toInt64) ∧ zPost S S2
def zAns4B (S : ZSt) : Int32 → Value → ZSt → Prop := fun kk b S2 => ∃ b' : Int32, b = .int b' ∧ (b' = nI 0 ∨ b' = nI 1) ∧ zI S2 130 0 = kk ∧ (kk = nI 0 → zL S2 161 0 = b'.toInt64) ∧ zPost S S2
/-- where the reference is asked: its cells are as they were -/
def zAt (S T : ZSt) : Prop := ∀ c, 130 ≤ c → c < 162 → zI T c = zI S c
theorem zH.big {S Sc : ZSt} (h : zH lO S Sc) (hD : zStD S) : ∀ c, 130 ≤ c → c < 162 → zI Sc c = zI S c := fun c hc h2 => h.2.2.2 c (zmem_big (b := 130) rfl hc) (fun h9 => by have := hD c h9; omega)
theorem zH.kp {S Sc : ZSt} (h : zH lO S Sc) (hD : zStD S) (hs : zSh Sc) : zKp S Sc := ⟨h.at hD rfl, by show Sc.2.2.2.2.1 0 = S.2.2.2.2.1 0; rw [h.1], by show Sc.2.2.2.1 0 = S.2.2.2.1 0; rw [h.1], hs⟩
theorem zH.kpT {S Sc : ZSt} (h : zH lO S Sc) (hD : zStD S) (hs : zSh Sc) {r : Nat} {v : Int32} : zKp S (zThr (zsI Sc 105 r v)) := h.kp hD hs
theorem zH.kpL {S Sc : ZSt} (h : zH lO S Sc) (hD : zStD S) (hs : zSh Sc) {v : Int64} : zKp S (zsL Sc 161 0 v) := h.kp hD hs
theorem zy_post {S Sc T S2 : ZSt} (hD : zStD S) (h1 : zH lO S Sc) (eI : ∀ c, c ≠ 105 → zI T c = zI Sc c) (eR : zR T = zR Sc) (en : zn T = zn Sc) (ec : zc T = zc Sc) (ex : zx T = zx Sc) (eu : zu T ≤ zu Sc + 1) (ez : zz T ≤ zz Sc + 50) (h2 : zH lM T S2) (hk : zKM T S2) :
    (∀ c, zmem c lQ = false → ¬ zStk S c → zI S2 c = zI S c) ∧ zKM S S2 ∧ (∀ c, c ≠ 125 → zR S2 c = zR S c) ∧ (zSwp (zR S 125) → zSwp (zR S2 125)) ∧ zn S2 = zn S ∧ zc S2 = zc S ∧ zx S2 = zx S ∧ zu S2 ≤ zu S + 1 ∧ zz S2 ≤ zz S + 50 := by
  have s1 : ∀ c, zmem c lQ = false → zmem c lO = false := zsub_of rfl
  have s2 : ∀ c, zmem c lQ = false → zmem c lM = false := zsub_of rfl
  have e0 : zI T 130 = zI S 130 := (eI 130 (by omega)).trans (h1.at hD rfl)
  have e6 : zI T 136 = zI S 136 := (eI 136 (by omega)).trans (h1.at hD rfl)
  have e7 : zI T 137 = zI S 137 := (eI 137 (by omega)).trans (h1.at hD rfl)
  have e8 : zI T 138 = zI S 138 := (eI 138 (by omega)).trans (h1.at hD rfl)
  have e9 : zI T 139 = zI S 139 := (eI 139 (by omega)).trans (h1.at hD rfl)
  obtain ⟨k1, k2, k3⟩ := hk
  rw [e0] at k1
  rw [e6] at k2
  rw [e7, e8, e9] at k3
  have u1 : zn Sc = zn S := by show Sc.2.2.2.1 = S.2.2.2.1; rw [h1.1]
  have u2 : zc Sc = zc S := by show Sc.2.2.2.2.1 = S.2.2.2.2.1; rw [h1.1]
  have u3 : zx Sc = zx S := by show Sc.2.2.2.2.2.1 = S.2.2.2.2.2.1; rw [h1.1]
  have u4 : zu Sc = zu S := by show Sc.2.2.2.2.2.2.1 = S.2.2.2.2.2.2.1; rw [h1.1]
  have u5 : zz Sc = zz S := by show Sc.2.2.2.2.2.2.2 = S.2.2.2.2.2.2.2; rw [h1.1]
  have w1 : zn S2 = zn T := by show S2.2.2.2.1 = T.2.2.2.1; rw [h2.1]
  have w2 : zc S2 = zc T := by show S2.2.2.2.2.1 = T.2.2.2.2.1; rw [h2.1]
  have w3 : zx S2 = zx T := by show S2.2.2.2.2.2.1 = T.2.2.2.2.2.1; rw [h2.1]
  have w4 : zu S2 = zu T := by show S2.2.2.2.2.2.2.1 = T.2.2.2.2.2.2.1; rw [h2.1]
  have w5 : zz S2 = zz T := by show S2.2.2.2.2.2.2.2 = T.2.2.2.2.2.2.2; rw [h2.1]
  refine ⟨fun c hc hs => ?_, ⟨k1, k2, k3⟩, fun c hc => ?_, fun h9 => ?_, ?_, ?_, ?_, ?_, ?_⟩
  · rw [h2.2.2.2 c (s2 c hc) (fun h9 => hs (h1.stk (zStk_of ec (fun c _ => by rw [eR]) h9))), eI c (fun e => by rw [e] at hc; cases hc), h1.2.2.2 c (s1 c hc) hs]
  · rw [h2.2.1 c hc, eR, h1.2.1 c hc]
  · refine h2.2.2.1 ?_
    rw [eR]
    exact h1.2.2.1 h9
  · rw [w1, en, u1]
  · rw [w2, ec, u2]
  · rw [w3, ex, u3]
  · rw [w4, ← u4]; exact eu
  · rw [w5, ← u5]; exact ez
theorem lCore_lt : ∀ {c}, zmem c lCore = true → c < 162 := fun {c} hc => by
  by_cases h : c < 162
  · exact h
  · have := zmem_big (b := 162) (c := c) (l := lCore) rfl (by omega)
    rw [this] at hc
    cases hc
theorem zH.coreO {S S1 : ZSt} (h : zH lO S S1) (hD : zStD S) {c : Nat} (hc : zmem c lCore = true) : zI S1 c = zI S c := h.2.2.2 c (zdis_of rfl c hc) (fun h9 => by have := hD c h9; have := lCore_lt hc; omega)
theorem zH.coreM {S S1 : ZSt} (h : zH lM S S1) (hD : zStD S) {c : Nat} (hc : zmem c lCore = true) : zI S1 c = zI S c := h.2.2.2 c (zdis_of rfl c hc) (fun h9 => by have := hD c h9; have := lCore_lt hc; omega)
theorem zy_ok {S Sc S2 : ZSt} {x : Int32} {o : ZOut} (hD : zStD S) (hJ : jCore S) (h1 : zH lO S Sc) (h2 : zMo (zsL Sc 161 0 x.toInt64) (.inr x) o S2) : ∃ b, o = .inl (some b) ∧ zAns4 S (nI 0) b S2 := by
  obtain ⟨rfl, a1, a2, a3, a4, a5⟩ := h2
  refine ⟨_, rfl, x, rfl, a5, fun _ => ?_, ?_⟩
  · rw [a3]
    rfl
  · obtain ⟨p1, p2, p3, p4, p5, p6, p7, p8, p9⟩ := zy_post (T := zsL Sc 161 0 x.toInt64) hD h1 (fun _ _ => rfl) rfl rfl rfl rfl (Nat.le_succ _) (Nat.le_add_right _ _) a1 a4
    refine ⟨p1, p2, p3, p4, p5, p6, p7, p8, p9, a2, jCore_cong (fun c hc => ?_) hJ⟩
    rw [a1.coreM (S := zsL Sc 161 0 x.toInt64) (h1.D hD) hc]
    exact h1.coreO hD hc
theorem zy_bad {S Sc S2 : ZSt} {r kk : Nat} {o : ZOut} (hD : zStD S) (hJ : jCore S) (h1 : zH lO S Sc) (hr : r < 4) (hk : 0 < kk ∧ kk < 10) (h2 : zMo (zThr (zsI Sc 105 r (zI Sc 105 r + nI 1))) (.inl (r, kk)) o S2) : ∃ b, o = .inl (some b) ∧ zAns4B S (nI kk) b S2 := by
  obtain ⟨T1, rfl, a1, a2, a3, a4, rfl⟩ := h2
  have hk0 : ¬ nI kk = nI 0 := fun e => by
    have := nEq (by omega) (by omega) e
    omega
  have s3 : zH lM (zThr (zsI Sc 105 r (zI Sc 105 r + nI 1))) (zsI T1 130 0 (nI kk)) := a1.tr (zJ.rf.I (l := lM) rfl).h
  have k3 : zKM (zThr (zsI Sc 105 r (zI Sc 105 r + nI 1))) (zsI T1 130 0 (nI kk)) := by
    refine ⟨fun j hj => ?_, a4.2.1, a4.2.2⟩
    rw [zI_o (by have := zkey hj; omega)]
    exact a4.1 j hj
  have eI : ∀ c, c ≠ 105 → zI (zThr (zsI Sc 105 r (zI Sc 105 r + nI 1))) c = zI Sc c := fun c hc => zI_ne (S := Sc) _ _ hc
  obtain ⟨p1, p2, p3, p4, p5, p6, p7, p8, p9⟩ := zy_post (T := zThr (zsI Sc 105 r (zI Sc 105 r + nI 1))) hD h1 eI rfl rfl rfl rfl (Nat.le_refl _) (Nat.add_le_add_left (by omega : 6 ≤ 50) _) s3 k3
  refine ⟨_, rfl, nI 0, rfl, Or.inl rfl, ?_, fun e => absurd e hk0, fun c hc hs => ?_, p2, p3, p4, p5, p6, p7, p8, p9, a2, ?_⟩
  · rw [zI_ne _ _ (by omega), zI_s]
  · rw [zI_ne _ _ (fun e => by rw [e] at hc; cases hc)]
    exact p1 c hc hs
  · refine jCore_inc hr (fun c hc h5 h6 => ?_) ?_ ?_ hJ
    · rw [zI_ne _ _ h6, zI_ne _ _ (fun e => by rw [e] at hc; cases hc), a1.coreM (S := zThr (zsI Sc 105 r (zI Sc 105 r + nI 1))) (h1.D hD) hc, eI c h5]
      exact h1.coreO hD hc
    · rw [zI_ne _ _ (by omega), zI_ne _ _ (by omega), a1.coreM (S := zThr (zsI Sc 105 r (zI Sc 105 r + nI 1))) (h1.D hD) rfl]
      show zI (zsI Sc 105 r (zI Sc 105 r + nI 1)) 105 = _
      rw [zI_eq, h1.coreO hD rfl]
    · have e1 : zI T1 131 = zI S 131 := by
        rw [a1.coreM (S := zThr (zsI Sc 105 r (zI Sc 105 r + nI 1))) (h1.D hD) rfl, eI 131 (by omega)]
        exact h1.coreO hD rfl
      rw [zI_eq, zI_ne _ _ (by omega), e1]
theorem zAns4B.to {S : ZSt} {kk : Int32} {b : Value} {S2 : ZSt} (h : zAns4B S kk b S2) : zAns4 S kk b S2 := by
  obtain ⟨b', h1, -, h2⟩ := h
  exact ⟨b', h1, h2⟩
theorem lN_bo {v : Int32} (h : v = nI 0 ∨ v = nI 1) : (v = nI 0 ∧ lN 0 = v.toInt64) ∨ (v = nI 1 ∧ lN 1 = v.toInt64) := by
  rcases h with rfl | rfl
  · exact Or.inl ⟨rfl, by decide⟩
  · exact Or.inr ⟨rfl, by decide⟩
theorem y_holds {v1 v2 : Int32} {S : ZSt} {res : ZRes} (hS : zSh S) (hD : zStD S) (hJ : jCore S) (hr : ∀ r kk, res = .inl (r, kk) → (r = 0 ∧ kk = 1) ∨ (r = 1 ∧ kk = 2) ∨ (r = 3 ∧ kk = 3)) (hb : ∀ v, res = .inr v → v = nI 0 ∨ v = nI 1) (hO : zC m_N_holds [.ref 75, .int v1, .int v2] S (zOb S res)) (hM : ∀ T, zSh T → zAt S T → zC m_M_holds [.ref 130, .int v1, .int v2] T (zMo T res)) : zC m_L_holds [.ref 75, .int v1, .int v2, .ref 161] S (zTwoR S m_M_holds [.int v1, .int v2] (zAns4B S)) := by
  refine b_L_holds hS (zC.imp hO (fun o S1 h => ?_))
  cases res with
  | inr v =>
    obtain ⟨rfl, h1, h2⟩ := h
    have hv := hb v rfl
    have e : zC m_M_holds [.ref 130, .int v1, .int v2] (zsL S1 161 0 v.toInt64) (fun o S2 => ∃ b, o = .inl (some b) ∧ zAns4B S (nI 0) b S2) := zC.imp (hM (zsL S1 161 0 v.toInt64) h2 (h1.big hD)) (fun o S2 h => by
      obtain ⟨b, e1, b', e2, e3, e4⟩ := zy_ok hD hJ h1 h
      have e5 : o = .inl (some (.int v)) := h.1
      have e6 : b' = v := by
        rw [e5, e2] at e1
        cases e1
        rfl
      exact ⟨b, e1, b', e2, by rw [e6]; exact hv, e3, e4⟩)
    rcases lN_bo hv with ⟨g1, g2⟩ | ⟨g1, g2⟩
    · refine b_L_holds_6 h2 ⟨fun _ => ⟨zinl rfl, _, rfl, h1.kpL hD h2, ?_⟩, fun h9 => absurd (by rw [g1]; rfl) h9⟩
      rw [g2]
      exact e
    · refine b_L_holds_6 h2 ⟨fun h9 => absurd h9 (by rw [g1]; decide), fun _ => ⟨zinl rfl, _, rfl, h1.kpL hD h2, ?_⟩⟩
      rw [g2]
      exact e
  | inl p =>
    obtain ⟨r, kk⟩ := p
    obtain ⟨rfl, Sc, h1, h2, rfl⟩ := h
    rcases hr r kk rfl with ⟨rfl, rfl⟩ | ⟨rfl, rfl⟩ | ⟨rfl, rfl⟩
    · exact b_L_holds_12 h2 ⟨_, rfl, h1.kpT hD h2, zC.imp (hM (zThr (zsI Sc 105 0 (zI Sc 105 0 + nI 1))) h2 (fun c hc h9 => (zI_ne (S := Sc) _ _ (by omega)).trans (h1.big hD c hc h9))) (fun o S2 h => by
        obtain ⟨b, e1, e2⟩ := zy_bad (r := 0) (kk := 1) hD hJ h1 (by omega) (by omega) h
        exact ⟨b, e1, e2⟩)⟩
    · exact b_L_holds_15 h2 ⟨_, rfl, h1.kpT hD h2, zC.imp (hM (zThr (zsI Sc 105 1 (zI Sc 105 1 + nI 1))) h2 (fun c hc h9 => (zI_ne (S := Sc) _ _ (by omega)).trans (h1.big hD c hc h9))) (fun o S2 h => by
        obtain ⟨b, e1, e2⟩ := zy_bad (r := 1) (kk := 2) hD hJ h1 (by omega) (by omega) h
        exact ⟨b, e1, e2⟩)⟩
    · exact b_L_holds_18 h2 ⟨_, rfl, h1.kpT hD h2, zC.imp (hM (zThr (zsI Sc 105 3 (zI Sc 105 3 + nI 1))) h2 (fun c hc h9 => (zI_ne (S := Sc) _ _ (by omega)).trans (h1.big hD c hc h9))) (fun o S2 h => by
        obtain ⟨b, e1, e2⟩ := zy_bad (r := 3) (kk := 3) hD hJ h1 (by omega) (by omega) h
        exact ⟨b, e1, e2⟩)⟩
theorem y_right {v1 v2 v3 v4 : Int32} {S : ZSt} {res : ZRes} (hS : zSh S) (hD : zStD S) (hJ : jCore S) (hr : ∀ r kk, res = .inl (r, kk) → (r = 0 ∧ kk = 1) ∨ (r = 1 ∧ kk = 2) ∨ (r = 2 ∧ kk = 3) ∨ (r = 3 ∧ kk = 4)) (hO : zC m_N_right [.ref 75, .int v1, .int v2, .int v3, .int v4] S (zOb S res)) (hM : ∀ T, zSh T → zAt S T → zC m_M_right [.ref 130, .int v1, .int v2, .int v3, .int v4] T (zMo T res)) : zC m_L_right [.ref 75, .int v1, .int v2, .int v3, .int v4, .ref 161] S (zTwoR S m_M_right [.int v1, .int v2, .int v3, .int v4] (zAns4 S)) := by
  refine b_L_right hS (zC.imp hO (fun o S1 h => ?_))
  cases res with
  | inr v =>
    obtain ⟨rfl, h1, h2⟩ := h
    exact b_L_right_8 h2 ⟨zinl rfl, _, rfl, h1.kpL hD h2, zC.imp (hM (zsL S1 161 0 v.toInt64) h2 (h1.big hD)) (fun o S2 h => zy_ok hD hJ h1 h)⟩
  | inl p =>
    obtain ⟨r, kk⟩ := p
    obtain ⟨rfl, Sc, h1, h2, rfl⟩ := h
    rcases hr r kk rfl with ⟨rfl, rfl⟩ | ⟨rfl, rfl⟩ | ⟨rfl, rfl⟩ | ⟨rfl, rfl⟩
    · exact b_L_right_11 h2 ⟨_, rfl, h1.kpT hD h2, zC.imp (hM (zThr (zsI Sc 105 0 (zI Sc 105 0 + nI 1))) h2 (fun c hc h9 => (zI_ne (S := Sc) _ _ (by omega)).trans (h1.big hD c hc h9))) (fun o S2 h => by
        obtain ⟨b, e1, e2⟩ := zy_bad (r := 0) (kk := 1) hD hJ h1 (by omega) (by omega) h
        exact ⟨b, e1, e2.to⟩)⟩
    · exact b_L_right_14 h2 ⟨_, rfl, h1.kpT hD h2, zC.imp (hM (zThr (zsI Sc 105 1 (zI Sc 105 1 + nI 1))) h2 (fun c hc h9 => (zI_ne (S := Sc) _ _ (by omega)).trans (h1.big hD c hc h9))) (fun o S2 h => by
        obtain ⟨b, e1, e2⟩ := zy_bad (r := 1) (kk := 2) hD hJ h1 (by omega) (by omega) h
        exact ⟨b, e1, e2.to⟩)⟩
    · exact b_L_right_17 h2 ⟨_, rfl, h1.kpT hD h2, zC.imp (hM (zThr (zsI Sc 105 2 (zI Sc 105 2 + nI 1))) h2 (fun c hc h9 => (zI_ne (S := Sc) _ _ (by omega)).trans (h1.big hD c hc h9))) (fun o S2 h => by
        obtain ⟨b, e1, e2⟩ := zy_bad (r := 2) (kk := 3) hD hJ h1 (by omega) (by omega) h
        exact ⟨b, e1, e2.to⟩)⟩
    · exact b_L_right_20 h2 ⟨_, rfl, h1.kpT hD h2, zC.imp (hM (zThr (zsI Sc 105 3 (zI Sc 105 3 + nI 1))) h2 (fun c hc h9 => (zI_ne (S := Sc) _ _ (by omega)).trans (h1.big hD c hc h9))) (fun o S2 h => by
        obtain ⟨b, e1, e2⟩ := zy_bad (r := 3) (kk := 4) hD hJ h1 (by omega) (by omega) h
        exact ⟨b, e1, e2.to⟩)⟩
theorem y_least {v1 v2 v3 v4 : Int32} {S : ZSt} {res : ZRes} (hS : zSh S) (hD : zStD S) (hJ : jCore S) (hr : ∀ r kk, res = .inl (r, kk) → (r = 0 ∧ kk = 1) ∨ (r = 1 ∧ kk = 2) ∨ (r = 2 ∧ kk = 3) ∨ (r = 3 ∧ kk = 4)) (hO : zC m_N_least [.ref 75, .int v1, .int v2, .int v3, .int v4] S (zOb S res)) (hM : ∀ T, zSh T → zAt S T → zC m_M_least [.ref 130, .int v1, .int v2, .int v3, .int v4] T (zMo T res)) : zC m_L_least [.ref 75, .int v1, .int v2, .int v3, .int v4, .ref 161] S (zTwoR S m_M_least [.int v1, .int v2, .int v3, .int v4] (zAns4 S)) := by
  refine b_L_least hS (zC.imp hO (fun o S1 h => ?_))
  cases res with
  | inr v =>
    obtain ⟨rfl, h1, h2⟩ := h
    exact b_L_least_8 h2 ⟨zinl rfl, _, rfl, h1.kpL hD h2, zC.imp (hM (zsL S1 161 0 v.toInt64) h2 (h1.big hD)) (fun o S2 h => zy_ok hD hJ h1 h)⟩
  | inl p =>
    obtain ⟨r, kk⟩ := p
    obtain ⟨rfl, Sc, h1, h2, rfl⟩ := h
    rcases hr r kk rfl with ⟨rfl, rfl⟩ | ⟨rfl, rfl⟩ | ⟨rfl, rfl⟩ | ⟨rfl, rfl⟩
    · exact b_L_least_11 h2 ⟨_, rfl, h1.kpT hD h2, zC.imp (hM (zThr (zsI Sc 105 0 (zI Sc 105 0 + nI 1))) h2 (fun c hc h9 => (zI_ne (S := Sc) _ _ (by omega)).trans (h1.big hD c hc h9))) (fun o S2 h => by
        obtain ⟨b, e1, e2⟩ := zy_bad (r := 0) (kk := 1) hD hJ h1 (by omega) (by omega) h
        exact ⟨b, e1, e2.to⟩)⟩
    · exact b_L_least_14 h2 ⟨_, rfl, h1.kpT hD h2, zC.imp (hM (zThr (zsI Sc 105 1 (zI Sc 105 1 + nI 1))) h2 (fun c hc h9 => (zI_ne (S := Sc) _ _ (by omega)).trans (h1.big hD c hc h9))) (fun o S2 h => by
        obtain ⟨b, e1, e2⟩ := zy_bad (r := 1) (kk := 2) hD hJ h1 (by omega) (by omega) h
        exact ⟨b, e1, e2.to⟩)⟩
    · exact b_L_least_17 h2 ⟨_, rfl, h1.kpT hD h2, zC.imp (hM (zThr (zsI Sc 105 2 (zI Sc 105 2 + nI 1))) h2 (fun c hc h9 => (zI_ne (S := Sc) _ _ (by omega)).trans (h1.big hD c hc h9))) (fun o S2 h => by
        obtain ⟨b, e1, e2⟩ := zy_bad (r := 2) (kk := 3) hD hJ h1 (by omega) (by omega) h
        exact ⟨b, e1, e2.to⟩)⟩
    · exact b_L_least_20 h2 ⟨_, rfl, h1.kpT hD h2, zC.imp (hM (zThr (zsI Sc 105 3 (zI Sc 105 3 + nI 1))) h2 (fun c hc h9 => (zI_ne (S := Sc) _ _ (by omega)).trans (h1.big hD c hc h9))) (fun o S2 h => by
        obtain ⟨b, e1, e2⟩ := zy_bad (r := 3) (kk := 4) hD hJ h1 (by omega) (by omega) h
        exact ⟨b, e1, e2.to⟩)⟩
theorem y_kept {v1 v2 v3 v4 v5 : Int32} {S : ZSt} {res : ZRes} (hS : zSh S) (hD : zStD S) (hJ : jCore S) (hr : ∀ r kk, res = .inl (r, kk) → (r = 0 ∧ kk = 1) ∨ (r = 1 ∧ kk = 2) ∨ (r = 2 ∧ kk = 3) ∨ (r = 3 ∧ kk = 4)) (hO : zC m_N_kept [.ref 75, .int v1, .int v2, .int v3, .int v4, .int v5] S (zOb S res)) (hM : ∀ T, zSh T → zAt S T → zC m_M_kept [.ref 130, .int v1, .int v2, .int v3, .int v4, .int v5] T (zMo T res)) : zC m_L_kept [.ref 75, .int v1, .int v2, .int v3, .int v4, .int v5, .ref 161] S (zTwoR S m_M_kept [.int v1, .int v2, .int v3, .int v4, .int v5] (zAns4 S)) := by
  refine b_L_kept hS (zC.imp hO (fun o S1 h => ?_))
  cases res with
  | inr v =>
    obtain ⟨rfl, h1, h2⟩ := h
    exact b_L_kept_9 h2 ⟨zinl rfl, _, rfl, h1.kpL hD h2, zC.imp (hM (zsL S1 161 0 v.toInt64) h2 (h1.big hD)) (fun o S2 h => zy_ok hD hJ h1 h)⟩
  | inl p =>
    obtain ⟨r, kk⟩ := p
    obtain ⟨rfl, Sc, h1, h2, rfl⟩ := h
    rcases hr r kk rfl with ⟨rfl, rfl⟩ | ⟨rfl, rfl⟩ | ⟨rfl, rfl⟩ | ⟨rfl, rfl⟩
    · exact b_L_kept_12 h2 ⟨_, rfl, h1.kpT hD h2, zC.imp (hM (zThr (zsI Sc 105 0 (zI Sc 105 0 + nI 1))) h2 (fun c hc h9 => (zI_ne (S := Sc) _ _ (by omega)).trans (h1.big hD c hc h9))) (fun o S2 h => by
        obtain ⟨b, e1, e2⟩ := zy_bad (r := 0) (kk := 1) hD hJ h1 (by omega) (by omega) h
        exact ⟨b, e1, e2.to⟩)⟩
    · exact b_L_kept_15 h2 ⟨_, rfl, h1.kpT hD h2, zC.imp (hM (zThr (zsI Sc 105 1 (zI Sc 105 1 + nI 1))) h2 (fun c hc h9 => (zI_ne (S := Sc) _ _ (by omega)).trans (h1.big hD c hc h9))) (fun o S2 h => by
        obtain ⟨b, e1, e2⟩ := zy_bad (r := 1) (kk := 2) hD hJ h1 (by omega) (by omega) h
        exact ⟨b, e1, e2.to⟩)⟩
    · exact b_L_kept_18 h2 ⟨_, rfl, h1.kpT hD h2, zC.imp (hM (zThr (zsI Sc 105 2 (zI Sc 105 2 + nI 1))) h2 (fun c hc h9 => (zI_ne (S := Sc) _ _ (by omega)).trans (h1.big hD c hc h9))) (fun o S2 h => by
        obtain ⟨b, e1, e2⟩ := zy_bad (r := 2) (kk := 3) hD hJ h1 (by omega) (by omega) h
        exact ⟨b, e1, e2.to⟩)⟩
    · exact b_L_kept_21 h2 ⟨_, rfl, h1.kpT hD h2, zC.imp (hM (zThr (zsI Sc 105 3 (zI Sc 105 3 + nI 1))) h2 (fun c hc h9 => (zI_ne (S := Sc) _ _ (by omega)).trans (h1.big hD c hc h9))) (fun o S2 h => by
        obtain ⟨b, e1, e2⟩ := zy_bad (r := 3) (kk := 4) hD hJ h1 (by omega) (by omega) h
        exact ⟨b, e1, e2.to⟩)⟩
theorem y_find {v1 v2 v3 v4 v5 v6 : Int32} {S : ZSt} {res : ZRes} (hS : zSh S) (hD : zStD S) (hJ : jCore S) (hr : ∀ r kk, res = .inl (r, kk) → (r = 1 ∧ kk = 1) ∨ (r = 2 ∧ kk = 2)) (hO : zC m_N_find [.ref 75, .int v1, .int v2, .int v3, .int v4, .int v5, .int v6] S (zOb S res)) (hM : ∀ T, zSh T → zAt S T → zC m_M_find [.ref 130, .int v1, .int v2, .int v3, .int v4, .int v5, .int v6] T (zMo T res)) : zC m_L_find [.ref 75, .int v1, .int v2, .int v3, .int v4, .int v5, .int v6, .ref 161] S (zTwoR S m_M_find [.int v1, .int v2, .int v3, .int v4, .int v5, .int v6] (zAns4 S)) := by
  refine b_L_find hS (zC.imp hO (fun o S1 h => ?_))
  cases res with
  | inr v =>
    obtain ⟨rfl, h1, h2⟩ := h
    exact b_L_find_10 h2 ⟨zinl rfl, _, rfl, h1.kpL hD h2, zC.imp (hM (zsL S1 161 0 v.toInt64) h2 (h1.big hD)) (fun o S2 h => zy_ok hD hJ h1 h)⟩
  | inl p =>
    obtain ⟨r, kk⟩ := p
    obtain ⟨rfl, Sc, h1, h2, rfl⟩ := h
    rcases hr r kk rfl with ⟨rfl, rfl⟩ | ⟨rfl, rfl⟩
    · exact b_L_find_13 h2 ⟨_, rfl, h1.kpT hD h2, zC.imp (hM (zThr (zsI Sc 105 1 (zI Sc 105 1 + nI 1))) h2 (fun c hc h9 => (zI_ne (S := Sc) _ _ (by omega)).trans (h1.big hD c hc h9))) (fun o S2 h => by
        obtain ⟨b, e1, e2⟩ := zy_bad (r := 1) (kk := 1) hD hJ h1 (by omega) (by omega) h
        exact ⟨b, e1, e2.to⟩)⟩
    · exact b_L_find_16 h2 ⟨_, rfl, h1.kpT hD h2, zC.imp (hM (zThr (zsI Sc 105 2 (zI Sc 105 2 + nI 1))) h2 (fun c hc h9 => (zI_ne (S := Sc) _ _ (by omega)).trans (h1.big hD c hc h9))) (fun o S2 h => by
        obtain ⟨b, e1, e2⟩ := zy_bad (r := 2) (kk := 2) hD hJ h1 (by omega) (by omega) h
        exact ⟨b, e1, e2.to⟩)⟩
theorem y_can {v1 v2 v3 : Int32} {S : ZSt} {res : ZRes} (hS : zSh S) (hD : zStD S) (hJ : jCore S) (hr : ∀ r kk, res = .inl (r, kk) → (r = 2 ∧ kk = 1)) (hb : ∀ v, res = .inr v → v = nI 0 ∨ v = nI 1) (hO : zC m_N_can [.ref 75, .int v1, .int v2, .int v3] S (zOb S res)) (hM : ∀ T, zSh T → zAt S T → zC m_M_can [.ref 130, .int v1, .int v2, .int v3] T (zMo T res)) : zC m_L_can [.ref 75, .int v1, .int v2, .int v3, .ref 161] S (zTwoR S m_M_can [.int v1, .int v2, .int v3] (zAns4B S)) := by
  refine b_L_can hS (zC.imp hO (fun o S1 h => ?_))
  cases res with
  | inr v =>
    obtain ⟨rfl, h1, h2⟩ := h
    have hv := hb v rfl
    have e : zC m_M_can [.ref 130, .int v1, .int v2, .int v3] (zsL S1 161 0 v.toInt64) (fun o S2 => ∃ b, o = .inl (some b) ∧ zAns4B S (nI 0) b S2) := zC.imp (hM (zsL S1 161 0 v.toInt64) h2 (h1.big hD)) (fun o S2 h => by
      obtain ⟨b, e1, b', e2, e3, e4⟩ := zy_ok hD hJ h1 h
      have e5 : o = .inl (some (.int v)) := h.1
      have e6 : b' = v := by
        rw [e5, e2] at e1
        cases e1
        rfl
      exact ⟨b, e1, b', e2, by rw [e6]; exact hv, e3, e4⟩)
    rcases lN_bo hv with ⟨g1, g2⟩ | ⟨g1, g2⟩
    · refine b_L_can_7 h2 ⟨fun _ => ⟨zinl rfl, _, rfl, h1.kpL hD h2, ?_⟩, fun h9 => absurd (by rw [g1]; rfl) h9⟩
      rw [g2]
      exact e
    · refine b_L_can_7 h2 ⟨fun h9 => absurd h9 (by rw [g1]; decide), fun _ => ⟨zinl rfl, _, rfl, h1.kpL hD h2, ?_⟩⟩
      rw [g2]
      exact e
  | inl p =>
    obtain ⟨r, kk⟩ := p
    obtain ⟨rfl, Sc, h1, h2, rfl⟩ := h
    obtain ⟨rfl, rfl⟩ := hr r kk rfl
    · exact b_L_can_13 h2 ⟨_, rfl, h1.kpT hD h2, zC.imp (hM (zThr (zsI Sc 105 2 (zI Sc 105 2 + nI 1))) h2 (fun c hc h9 => (zI_ne (S := Sc) _ _ (by omega)).trans (h1.big hD c hc h9))) (fun o S2 h => by
        obtain ⟨b, e1, e2⟩ := zy_bad (r := 2) (kk := 1) hD hJ h1 (by omega) (by omega) h
        exact ⟨b, e1, e2⟩)⟩
theorem y_why {v1 v2 : Int32} {S : ZSt} {res : ZRes} (hS : zSh S) (hD : zStD S) (hJ : jCore S) (hr : ∀ r kk, res = .inl (r, kk) → (r = 2 ∧ kk = 1)) (hO : zC m_N_why [.ref 75, .int v1, .int v2] S (zOb S res)) (hM : ∀ T, zSh T → zAt S T → zC m_M_why [.ref 130, .int v1, .int v2] T (zMo T res)) : zC m_L_why [.ref 75, .int v1, .int v2, .ref 161] S (zTwoR S m_M_why [.int v1, .int v2] (zAns4 S)) := by
  refine b_L_why hS (zC.imp hO (fun o S1 h => ?_))
  cases res with
  | inr v =>
    obtain ⟨rfl, h1, h2⟩ := h
    exact b_L_why_6 h2 ⟨zinl rfl, _, rfl, h1.kpL hD h2, zC.imp (hM (zsL S1 161 0 v.toInt64) h2 (h1.big hD)) (fun o S2 h => zy_ok hD hJ h1 h)⟩
  | inl p =>
    obtain ⟨r, kk⟩ := p
    obtain ⟨rfl, Sc, h1, h2, rfl⟩ := h
    obtain ⟨rfl, rfl⟩ := hr r kk rfl
    · exact b_L_why_9 h2 ⟨_, rfl, h1.kpT hD h2, zC.imp (hM (zThr (zsI Sc 105 2 (zI Sc 105 2 + nI 1))) h2 (fun c hc h9 => (zI_ne (S := Sc) _ _ (by omega)).trans (h1.big hD c hc h9))) (fun o S2 h => by
        obtain ⟨b, e1, e2⟩ := zy_bad (r := 2) (kk := 1) hD hJ h1 (by omega) (by omega) h
        exact ⟨b, e1, e2.to⟩)⟩
theorem y_cheat {v1 v2 v3 v4 : Int32} {S : ZSt} {res : ZRes} (hS : zSh S) (hD : zStD S) (hJ : jCore S) (hr : ∀ r kk, res = .inl (r, kk) → (r = 0 ∧ kk = 1) ∨ (r = 1 ∧ kk = 2) ∨ (r = 2 ∧ kk = 3) ∨ (r = 3 ∧ kk = 4)) (hb : ∀ v, res = .inr v → v = nI 0 ∨ v = nI 1) (hO : zC m_N_cheat [.ref 75, .int v1, .int v2, .int v3, .int v4] S (zOb S res)) (hM : ∀ T, zSh T → zAt S T → zC m_M_cheat [.ref 130, .int v1, .int v2, .int v3, .int v4] T (zMo T res)) : zC m_L_cheat [.ref 75, .int v1, .int v2, .int v3, .int v4, .ref 161] S (zTwoR S m_M_cheat [.int v1, .int v2, .int v3, .int v4] (zAns4B S)) := by
  refine b_L_cheat hS (zC.imp hO (fun o S1 h => ?_))
  cases res with
  | inr v =>
    obtain ⟨rfl, h1, h2⟩ := h
    have hv := hb v rfl
    have e : zC m_M_cheat [.ref 130, .int v1, .int v2, .int v3, .int v4] (zsL S1 161 0 v.toInt64) (fun o S2 => ∃ b, o = .inl (some b) ∧ zAns4B S (nI 0) b S2) := zC.imp (hM (zsL S1 161 0 v.toInt64) h2 (h1.big hD)) (fun o S2 h => by
      obtain ⟨b, e1, b', e2, e3, e4⟩ := zy_ok hD hJ h1 h
      have e5 : o = .inl (some (.int v)) := h.1
      have e6 : b' = v := by
        rw [e5, e2] at e1
        cases e1
        rfl
      exact ⟨b, e1, b', e2, by rw [e6]; exact hv, e3, e4⟩)
    rcases lN_bo hv with ⟨g1, g2⟩ | ⟨g1, g2⟩
    · refine b_L_cheat_8 h2 ⟨fun _ => ⟨zinl rfl, _, rfl, h1.kpL hD h2, ?_⟩, fun h9 => absurd (by rw [g1]; rfl) h9⟩
      rw [g2]
      exact e
    · refine b_L_cheat_8 h2 ⟨fun h9 => absurd h9 (by rw [g1]; decide), fun _ => ⟨zinl rfl, _, rfl, h1.kpL hD h2, ?_⟩⟩
      rw [g2]
      exact e
  | inl p =>
    obtain ⟨r, kk⟩ := p
    obtain ⟨rfl, Sc, h1, h2, rfl⟩ := h
    rcases hr r kk rfl with ⟨rfl, rfl⟩ | ⟨rfl, rfl⟩ | ⟨rfl, rfl⟩ | ⟨rfl, rfl⟩
    · exact b_L_cheat_14 h2 ⟨_, rfl, h1.kpT hD h2, zC.imp (hM (zThr (zsI Sc 105 0 (zI Sc 105 0 + nI 1))) h2 (fun c hc h9 => (zI_ne (S := Sc) _ _ (by omega)).trans (h1.big hD c hc h9))) (fun o S2 h => by
        obtain ⟨b, e1, e2⟩ := zy_bad (r := 0) (kk := 1) hD hJ h1 (by omega) (by omega) h
        exact ⟨b, e1, e2⟩)⟩
    · exact b_L_cheat_17 h2 ⟨_, rfl, h1.kpT hD h2, zC.imp (hM (zThr (zsI Sc 105 1 (zI Sc 105 1 + nI 1))) h2 (fun c hc h9 => (zI_ne (S := Sc) _ _ (by omega)).trans (h1.big hD c hc h9))) (fun o S2 h => by
        obtain ⟨b, e1, e2⟩ := zy_bad (r := 1) (kk := 2) hD hJ h1 (by omega) (by omega) h
        exact ⟨b, e1, e2⟩)⟩
    · exact b_L_cheat_20 h2 ⟨_, rfl, h1.kpT hD h2, zC.imp (hM (zThr (zsI Sc 105 2 (zI Sc 105 2 + nI 1))) h2 (fun c hc h9 => (zI_ne (S := Sc) _ _ (by omega)).trans (h1.big hD c hc h9))) (fun o S2 h => by
        obtain ⟨b, e1, e2⟩ := zy_bad (r := 2) (kk := 3) hD hJ h1 (by omega) (by omega) h
        exact ⟨b, e1, e2⟩)⟩
    · exact b_L_cheat_23 h2 ⟨_, rfl, h1.kpT hD h2, zC.imp (hM (zThr (zsI Sc 105 3 (zI Sc 105 3 + nI 1))) h2 (fun c hc h9 => (zI_ne (S := Sc) _ _ (by omega)).trans (h1.big hD c hc h9))) (fun o S2 h => by
        obtain ⟨b, e1, e2⟩ := zy_bad (r := 3) (kk := 4) hD hJ h1 (by omega) (by omega) h
        exact ⟨b, e1, e2⟩)⟩
theorem y_hidden {v1 v2 v3 : Int32} {S : ZSt} {res : ZRes} (hS : zSh S) (hD : zStD S) (hJ : jCore S) (hr : ∀ r kk, res = .inl (r, kk) → (r = 0 ∧ kk = 1) ∨ (r = 1 ∧ kk = 2) ∨ (r = 2 ∧ kk = 3) ∨ (r = 3 ∧ kk = 4)) (hO : zC m_N_hidden [.ref 75, .int v1, .int v2, .int v3] S (zOb S res)) (hM : ∀ T, zSh T → zAt S T → zC m_M_hidden [.ref 130, .int v1, .int v2, .int v3] T (zMo T res)) : zC m_L_hidden [.ref 75, .int v1, .int v2, .int v3, .ref 161] S (zTwoR S m_M_hidden [.int v1, .int v2, .int v3] (zAns4 S)) := by
  refine b_L_hidden hS (zC.imp hO (fun o S1 h => ?_))
  cases res with
  | inr v =>
    obtain ⟨rfl, h1, h2⟩ := h
    exact b_L_hidden_7 h2 ⟨zinl rfl, _, rfl, h1.kpL hD h2, zC.imp (hM (zsL S1 161 0 v.toInt64) h2 (h1.big hD)) (fun o S2 h => zy_ok hD hJ h1 h)⟩
  | inl p =>
    obtain ⟨r, kk⟩ := p
    obtain ⟨rfl, Sc, h1, h2, rfl⟩ := h
    rcases hr r kk rfl with ⟨rfl, rfl⟩ | ⟨rfl, rfl⟩ | ⟨rfl, rfl⟩ | ⟨rfl, rfl⟩
    · exact b_L_hidden_10 h2 ⟨_, rfl, h1.kpT hD h2, zC.imp (hM (zThr (zsI Sc 105 0 (zI Sc 105 0 + nI 1))) h2 (fun c hc h9 => (zI_ne (S := Sc) _ _ (by omega)).trans (h1.big hD c hc h9))) (fun o S2 h => by
        obtain ⟨b, e1, e2⟩ := zy_bad (r := 0) (kk := 1) hD hJ h1 (by omega) (by omega) h
        exact ⟨b, e1, e2.to⟩)⟩
    · exact b_L_hidden_13 h2 ⟨_, rfl, h1.kpT hD h2, zC.imp (hM (zThr (zsI Sc 105 1 (zI Sc 105 1 + nI 1))) h2 (fun c hc h9 => (zI_ne (S := Sc) _ _ (by omega)).trans (h1.big hD c hc h9))) (fun o S2 h => by
        obtain ⟨b, e1, e2⟩ := zy_bad (r := 1) (kk := 2) hD hJ h1 (by omega) (by omega) h
        exact ⟨b, e1, e2.to⟩)⟩
    · exact b_L_hidden_16 h2 ⟨_, rfl, h1.kpT hD h2, zC.imp (hM (zThr (zsI Sc 105 2 (zI Sc 105 2 + nI 1))) h2 (fun c hc h9 => (zI_ne (S := Sc) _ _ (by omega)).trans (h1.big hD c hc h9))) (fun o S2 h => by
        obtain ⟨b, e1, e2⟩ := zy_bad (r := 2) (kk := 3) hD hJ h1 (by omega) (by omega) h
        exact ⟨b, e1, e2.to⟩)⟩
    · exact b_L_hidden_19 h2 ⟨_, rfl, h1.kpT hD h2, zC.imp (hM (zThr (zsI Sc 105 3 (zI Sc 105 3 + nI 1))) h2 (fun c hc h9 => (zI_ne (S := Sc) _ _ (by omega)).trans (h1.big hD c hc h9))) (fun o S2 h => by
        obtain ⟨b, e1, e2⟩ := zy_bad (r := 3) (kk := 4) hD hJ h1 (by omega) (by omega) h
        exact ⟨b, e1, e2.to⟩)⟩
theorem y_share {v1 v2 v3 : Int32} {S : ZSt} {res : ZRes} (hS : zSh S) (hD : zStD S) (hJ : jCore S) (hr : ∀ r kk, res = .inl (r, kk) → (r = 2 ∧ kk = 1)) (hO : zC m_N_share [.ref 75, .int v1, .int v2, .int v3] S (zOb S res)) (hM : ∀ T, zSh T → zAt S T → zC m_M_share [.ref 130, .int v1, .int v2, .int v3] T (zMo T res)) : zC m_L_share [.ref 75, .int v1, .int v2, .int v3, .ref 161] S (zTwoR S m_M_share [.int v1, .int v2, .int v3] (zAns4 S)) := by
  refine b_L_share hS (zC.imp hO (fun o S1 h => ?_))
  cases res with
  | inr v =>
    obtain ⟨rfl, h1, h2⟩ := h
    exact b_L_share_7 h2 ⟨zinl rfl, _, rfl, h1.kpL hD h2, zC.imp (hM (zsL S1 161 0 v.toInt64) h2 (h1.big hD)) (fun o S2 h => zy_ok hD hJ h1 h)⟩
  | inl p =>
    obtain ⟨r, kk⟩ := p
    obtain ⟨rfl, Sc, h1, h2, rfl⟩ := h
    obtain ⟨rfl, rfl⟩ := hr r kk rfl
    · exact b_L_share_10 h2 ⟨_, rfl, h1.kpT hD h2, zC.imp (hM (zThr (zsI Sc 105 2 (zI Sc 105 2 + nI 1))) h2 (fun c hc h9 => (zI_ne (S := Sc) _ _ (by omega)).trans (h1.big hD c hc h9))) (fun o S2 h => by
        obtain ⟨b, e1, e2⟩ := zy_bad (r := 2) (kk := 1) hD hJ h1 (by omega) (by omega) h
        exact ⟨b, e1, e2.to⟩)⟩
theorem y_even {v1 v2 : Int32} {S : ZSt} {res : ZRes} (hS : zSh S) (hD : zStD S) (hJ : jCore S) (hr : ∀ r kk, res = .inl (r, kk) → (r = 2 ∧ kk = 1)) (hO : zC m_N_even [.ref 75, .int v1, .int v2] S (zOb S res)) (hM : ∀ T, zSh T → zAt S T → zC m_M_even [.ref 130, .int v1, .int v2] T (zMo T res)) : zC m_L_even [.ref 75, .int v1, .int v2, .ref 161] S (zTwoR S m_M_even [.int v1, .int v2] (zAns4 S)) := by
  refine b_L_even hS (zC.imp hO (fun o S1 h => ?_))
  cases res with
  | inr v =>
    obtain ⟨rfl, h1, h2⟩ := h
    exact b_L_even_6 h2 ⟨zinl rfl, _, rfl, h1.kpL hD h2, zC.imp (hM (zsL S1 161 0 v.toInt64) h2 (h1.big hD)) (fun o S2 h => zy_ok hD hJ h1 h)⟩
  | inl p =>
    obtain ⟨r, kk⟩ := p
    obtain ⟨rfl, Sc, h1, h2, rfl⟩ := h
    obtain ⟨rfl, rfl⟩ := hr r kk rfl
    · exact b_L_even_9 h2 ⟨_, rfl, h1.kpT hD h2, zC.imp (hM (zThr (zsI Sc 105 2 (zI Sc 105 2 + nI 1))) h2 (fun c hc h9 => (zI_ne (S := Sc) _ _ (by omega)).trans (h1.big hD c hc h9))) (fun o S2 h => by
        obtain ⟨b, e1, e2⟩ := zy_bad (r := 2) (kk := 1) hD hJ h1 (by omega) (by omega) h
        exact ⟨b, e1, e2.to⟩)⟩
theorem y_envy {v1 v2 v3 : Int32} {S : ZSt} {res : ZRes} (hS : zSh S) (hD : zStD S) (hJ : jCore S) (hr : ∀ r kk, res = .inl (r, kk) → (r = 2 ∧ kk = 1)) (hO : zC m_N_envy [.ref 75, .int v1, .int v2, .int v3] S (zOb S res)) (hM : ∀ T, zSh T → zAt S T → zC m_M_envy [.ref 130, .int v1, .int v2, .int v3] T (zMo T res)) : zC m_L_envy [.ref 75, .int v1, .int v2, .int v3, .ref 161] S (zTwoR S m_M_envy [.int v1, .int v2, .int v3] (zAns4 S)) := by
  refine b_L_envy hS (zC.imp hO (fun o S1 h => ?_))
  cases res with
  | inr v =>
    obtain ⟨rfl, h1, h2⟩ := h
    exact b_L_envy_7 h2 ⟨zinl rfl, _, rfl, h1.kpL hD h2, zC.imp (hM (zsL S1 161 0 v.toInt64) h2 (h1.big hD)) (fun o S2 h => zy_ok hD hJ h1 h)⟩
  | inl p =>
    obtain ⟨r, kk⟩ := p
    obtain ⟨rfl, Sc, h1, h2, rfl⟩ := h
    obtain ⟨rfl, rfl⟩ := hr r kk rfl
    · exact b_L_envy_10 h2 ⟨_, rfl, h1.kpT hD h2, zC.imp (hM (zThr (zsI Sc 105 2 (zI Sc 105 2 + nI 1))) h2 (fun c hc h9 => (zI_ne (S := Sc) _ _ (by omega)).trans (h1.big hD c hc h9))) (fun o S2 h => by
        obtain ⟨b, e1, e2⟩ := zy_bad (r := 2) (kk := 1) hD hJ h1 (by omega) (by omega) h
        exact ⟨b, e1, e2.to⟩)⟩
theorem y_agree {v1 v2 : Int32} {S : ZSt} {res : ZRes} (hS : zSh S) (hD : zStD S) (hJ : jCore S) (hr : ∀ r kk, res = .inl (r, kk) → (r = 2 ∧ kk = 1)) (hO : zC m_N_agree [.ref 75, .int v1, .int v2] S (zOb S res)) (hM : ∀ T, zSh T → zAt S T → zC m_M_agree [.ref 130, .int v1, .int v2] T (zMo T res)) : zC m_L_agree [.ref 75, .int v1, .int v2, .ref 161] S (zTwoR S m_M_agree [.int v1, .int v2] (zAns4 S)) := by
  refine b_L_agree hS (zC.imp hO (fun o S1 h => ?_))
  cases res with
  | inr v =>
    obtain ⟨rfl, h1, h2⟩ := h
    exact b_L_agree_6 h2 ⟨zinl rfl, _, rfl, h1.kpL hD h2, zC.imp (hM (zsL S1 161 0 v.toInt64) h2 (h1.big hD)) (fun o S2 h => zy_ok hD hJ h1 h)⟩
  | inl p =>
    obtain ⟨r, kk⟩ := p
    obtain ⟨rfl, Sc, h1, h2, rfl⟩ := h
    obtain ⟨rfl, rfl⟩ := hr r kk rfl
    · exact b_L_agree_9 h2 ⟨_, rfl, h1.kpT hD h2, zC.imp (hM (zThr (zsI Sc 105 2 (zI Sc 105 2 + nI 1))) h2 (fun c hc h9 => (zI_ne (S := Sc) _ _ (by omega)).trans (h1.big hD c hc h9))) (fun o S2 h => by
        obtain ⟨b, e1, e2⟩ := zy_bad (r := 2) (kk := 1) hD hJ h1 (by omega) (by omega) h
        exact ⟨b, e1, e2.to⟩)⟩
theorem y_trade {v1 v2 : Int32} {S : ZSt} {res : ZRes} (hS : zSh S) (hD : zStD S) (hJ : jCore S) (hr : ∀ r kk, res = .inl (r, kk) → (r = 2 ∧ kk = 1)) (hO : zC m_N_trade [.ref 75, .int v1, .int v2] S (zOb S res)) (hM : ∀ T, zSh T → zAt S T → zC m_M_trade [.ref 130, .int v1, .int v2] T (zMo T res)) : zC m_L_trade [.ref 75, .int v1, .int v2, .ref 161] S (zTwoR S m_M_trade [.int v1, .int v2] (zAns4 S)) := by
  refine b_L_trade hS (zC.imp hO (fun o S1 h => ?_))
  cases res with
  | inr v =>
    obtain ⟨rfl, h1, h2⟩ := h
    exact b_L_trade_6 h2 ⟨zinl rfl, _, rfl, h1.kpL hD h2, zC.imp (hM (zsL S1 161 0 v.toInt64) h2 (h1.big hD)) (fun o S2 h => zy_ok hD hJ h1 h)⟩
  | inl p =>
    obtain ⟨r, kk⟩ := p
    obtain ⟨rfl, Sc, h1, h2, rfl⟩ := h
    obtain ⟨rfl, rfl⟩ := hr r kk rfl
    · exact b_L_trade_9 h2 ⟨_, rfl, h1.kpT hD h2, zC.imp (hM (zThr (zsI Sc 105 2 (zI Sc 105 2 + nI 1))) h2 (fun c hc h9 => (zI_ne (S := Sc) _ _ (by omega)).trans (h1.big hD c hc h9))) (fun o S2 h => by
        obtain ⟨b, e1, e2⟩ := zy_bad (r := 2) (kk := 1) hD hJ h1 (by omega) (by omega) h
        exact ⟨b, e1, e2.to⟩)⟩
theorem y_whole {v1 v2 : Int32} {S : ZSt} {res : ZRes} (hS : zSh S) (hD : zStD S) (hJ : jCore S) (hr : ∀ r kk, res = .inl (r, kk) → (r = 2 ∧ kk = 1)) (hO : zC m_N_whole [.ref 75, .int v1, .int v2] S (zOb S res)) (hM : ∀ T, zSh T → zAt S T → zC m_M_whole [.ref 130, .int v1, .int v2] T (zMo T res)) : zC m_L_whole [.ref 75, .int v1, .int v2, .ref 161] S (zTwoR S m_M_whole [.int v1, .int v2] (zAns4 S)) := by
  refine b_L_whole hS (zC.imp hO (fun o S1 h => ?_))
  cases res with
  | inr v =>
    obtain ⟨rfl, h1, h2⟩ := h
    exact b_L_whole_6 h2 ⟨zinl rfl, _, rfl, h1.kpL hD h2, zC.imp (hM (zsL S1 161 0 v.toInt64) h2 (h1.big hD)) (fun o S2 h => zy_ok hD hJ h1 h)⟩
  | inl p =>
    obtain ⟨r, kk⟩ := p
    obtain ⟨rfl, Sc, h1, h2, rfl⟩ := h
    obtain ⟨rfl, rfl⟩ := hr r kk rfl
    · exact b_L_whole_9 h2 ⟨_, rfl, h1.kpT hD h2, zC.imp (hM (zThr (zsI Sc 105 2 (zI Sc 105 2 + nI 1))) h2 (fun c hc h9 => (zI_ne (S := Sc) _ _ (by omega)).trans (h1.big hD c hc h9))) (fun o S2 h => by
        obtain ⟨b, e1, e2⟩ := zy_bad (r := 2) (kk := 1) hD hJ h1 (by omega) (by omega) h
        exact ⟨b, e1, e2.to⟩)⟩
theorem y_woman {v1 v2 : Int32} {S : ZSt} {res : ZRes} (hS : zSh S) (hD : zStD S) (hJ : jCore S) (hr : ∀ r kk, res = .inl (r, kk) → (r = 2 ∧ kk = 1)) (hO : zC m_N_woman [.ref 75, .int v1, .int v2] S (zOb S res)) (hM : ∀ T, zSh T → zAt S T → zC m_M_woman [.ref 130, .int v1, .int v2] T (zMo T res)) : zC m_L_woman [.ref 75, .int v1, .int v2, .ref 161] S (zTwoR S m_M_woman [.int v1, .int v2] (zAns4 S)) := by
  refine b_L_woman hS (zC.imp hO (fun o S1 h => ?_))
  cases res with
  | inr v =>
    obtain ⟨rfl, h1, h2⟩ := h
    exact b_L_woman_6 h2 ⟨zinl rfl, _, rfl, h1.kpL hD h2, zC.imp (hM (zsL S1 161 0 v.toInt64) h2 (h1.big hD)) (fun o S2 h => zy_ok hD hJ h1 h)⟩
  | inl p =>
    obtain ⟨r, kk⟩ := p
    obtain ⟨rfl, Sc, h1, h2, rfl⟩ := h
    obtain ⟨rfl, rfl⟩ := hr r kk rfl
    · exact b_L_woman_9 h2 ⟨_, rfl, h1.kpT hD h2, zC.imp (hM (zThr (zsI Sc 105 2 (zI Sc 105 2 + nI 1))) h2 (fun c hc h9 => (zI_ne (S := Sc) _ _ (by omega)).trans (h1.big hD c hc h9))) (fun o S2 h => by
        obtain ⟨b, e1, e2⟩ := zy_bad (r := 2) (kk := 1) hD hJ h1 (by omega) (by omega) h
        exact ⟨b, e1, e2.to⟩)⟩
