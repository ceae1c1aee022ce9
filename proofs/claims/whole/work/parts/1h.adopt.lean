/-! A way is copied; adopt -/
set_option maxRecDepth 4000 in
theorem b_Wd_copyFrom {o : Nat} {o3 : Nat} {S : ZSt} {Q : ZOut → ZSt → Prop} (hS : zSh S) (h : (zc S o3 = 9 ∧ ∃ r1, zR S o3 0 = some r1 ∧ (zc S o = 9 ∧ ∃ r4, zR S o 0 = some r4 ∧ (zc S r1 = 100 ∧ zc S r4 = 100 ∧ ¬ (nI 0) < 0 ∧ ¬ (nI 0) < 0 ∧ ¬ (nI 24) < 0 ∧ (nI 0).toNatClampNeg + (nI 24).toNatClampNeg ≤ zn S r1 ∧ (nI 0).toNatClampNeg + (nI 24).toNatClampNeg ≤ zn S r4 ∧ zW 1 m_Wa_copyFrom 8 [some (.ref o), some (.ref o3)] [] (zwI S r4 (va_cpy (zI S r1) (zI S r4) (nI 0).toNatClampNeg (nI 0).toNatClampNeg (nI 24).toNatClampNeg)) Q)))) : zC m_Wa_copyFrom [.ref o, .ref o3] S Q := zF_W 13 (cs := [8, 16, 24]) (dy := [1, 4, 9, 12, 17, 20, 26, 27]) hS h
set_option maxRecDepth 4000 in
theorem b_Wd_copyFrom_8 {o : Nat} {o3 : Nat} {S : ZSt} {Q : ZOut → ZSt → Prop} (hS : zSh S) (h : (zc S o3 = 9 ∧ ∃ r9, zR S o3 1 = some r9 ∧ (zc S o = 9 ∧ ∃ r12, zR S o 1 = some r12 ∧ (zc S r9 = 100 ∧ zc S r12 = 100 ∧ ¬ (nI 0) < 0 ∧ ¬ (nI 0) < 0 ∧ ¬ (nI 24) < 0 ∧ (nI 0).toNatClampNeg + (nI 24).toNatClampNeg ≤ zn S r9 ∧ (nI 0).toNatClampNeg + (nI 24).toNatClampNeg ≤ zn S r12 ∧ zW 1 m_Wa_copyFrom 16 [some (.ref o), some (.ref o3)] [] (zwI S r12 (va_cpy (zI S r9) (zI S r12) (nI 0).toNatClampNeg (nI 0).toNatClampNeg (nI 24).toNatClampNeg)) Q)))) : zW 1 m_Wa_copyFrom 8 [some (.ref o), some (.ref o3)] [] S Q := zF_W 13 (cs := [8, 16, 24]) (dy := [1, 4, 9, 12, 17, 20, 26, 27]) hS h
set_option maxRecDepth 4000 in
theorem b_Wd_copyFrom_16 {o : Nat} {o3 : Nat} {S : ZSt} {Q : ZOut → ZSt → Prop} (hS : zSh S) (h : (zc S o3 = 9 ∧ ∃ r17, zR S o3 2 = some r17 ∧ (zc S o = 9 ∧ ∃ r20, zR S o 2 = some r20 ∧ (zc S r17 = 100 ∧ zc S r20 = 100 ∧ ¬ (nI 0) < 0 ∧ ¬ (nI 0) < 0 ∧ ¬ (nI 24) < 0 ∧ (nI 0).toNatClampNeg + (nI 24).toNatClampNeg ≤ zn S r17 ∧ (nI 0).toNatClampNeg + (nI 24).toNatClampNeg ≤ zn S r20 ∧ zW 1 m_Wa_copyFrom 24 [some (.ref o), some (.ref o3)] [] (zwI S r20 (va_cpy (zI S r17) (zI S r20) (nI 0).toNatClampNeg (nI 0).toNatClampNeg (nI 24).toNatClampNeg)) Q)))) : zW 1 m_Wa_copyFrom 16 [some (.ref o), some (.ref o3)] [] S Q := zF_W 13 (cs := [8, 16, 24]) (dy := [1, 4, 9, 12, 17, 20, 26, 27]) hS h
set_option maxRecDepth 4000 in
theorem b_Wd_copyFrom_24 {o : Nat} {o3 : Nat} {S : ZSt} {Q : ZOut → ZSt → Prop} (hS : zSh S) (h : (zc S o3 = 9 ∧ (zc S o = 9 ∧ Q (.inl none) (zsI S o 3 (zI S o3 3))))) : zW 1 m_Wa_copyFrom 24 [some (.ref o), some (.ref o3)] [] S Q := zF_W 10 (cs := [8, 16, 24]) (dy := [1, 4, 9, 12, 17, 20, 26, 27]) hS h
def zCw (S S1 : ZSt) (o o3 : Nat) (rs ss : Nat → Nat) (n : Nat) : Prop := S1.2 = S.2 ∧ (∀ c, c ≠ o → (∀ k, k < n → k ≠ 3 → c ≠ rs k) → zI S1 c = zI S c) ∧ (∀ j, j ≠ 3 → zI S1 o j = zI S o j) ∧ (zI S1 o 3 = if 3 < n then zI S o3 3 else zI S o 3) ∧ ∀ k, k < n → k ≠ 3 → ∀ j, j < 24 → zI S1 (rs k) j = zI S (ss k) j
/-- rows all apart -/
def zDw (o o3 : Nat) (rs ss : Nat → Nat) : Prop := o ≠ o3 ∧ (∀ k k', k < 3 → k' < 3 → k ≠ 3 → k' ≠ 3 → rs k = rs k' → k = k') ∧ ∀ k, k < 3 → k ≠ 3 → rs k ≠ o ∧ rs k ≠ o3 ∧ ss k ≠ o ∧ ∀ k', k' < 3 → k' ≠ 3 → rs k ≠ ss k'
theorem zCw.rf {S : ZSt} {o o3 : Nat} {rs ss : Nat → Nat} : zCw S S o o3 rs ss 0 := ⟨rfl, fun _ _ _ => rfl, fun _ _ => rfl, rfl, fun k h => by omega⟩
theorem zCw.sh {S S1 : ZSt} {o o3 n : Nat} {rs ss : Nat → Nat} (h : zCw S S1 o o3 rs ss n) (hS : zSh S) : zSh S1 := zSh_of h.1 hS
theorem zCw.c {S S1 : ZSt} {o o3 n : Nat} {rs ss : Nat → Nat} (h : zCw S S1 o o3 rs ss n) : zc S1 = zc S := by show S1.2.2.2.2.1 = S.2.2.2.2.1; rw [h.1]
theorem zCw.n {S S1 : ZSt} {o o3 n : Nat} {rs ss : Nat → Nat} (h : zCw S S1 o o3 rs ss n) : zn S1 = zn S := by show S1.2.2.2.1 = S.2.2.2.1; rw [h.1]
theorem zCw.r {S S1 : ZSt} {o o3 n : Nat} {rs ss : Nat → Nat} (h : zCw S S1 o o3 rs ss n) : zR S1 = zR S := by show S1.2.2.1 = S.2.2.1; rw [h.1]
theorem zCw.row {S S1 : ZSt} {o o3 n a b l : Nat} {rs ss : Nat → Nat} (h : zCw S S1 o o3 rs ss n) (d : zDw o o3 rs ss) (hn : n < 3) (h3 : n ≠ 3) (ha : a = 0) (hb : b = 0) (hl : l = 24) : zCw S (zwI S1 (rs n) (va_cpy (zI S1 (ss n)) (zI S1 (rs n)) a b l)) o o3 rs ss (n + 1) := by
  subst ha hb hl
  obtain ⟨h1, h2, h4, h5, h6⟩ := h
  obtain ⟨d1, d2, d3⟩ := d
  obtain ⟨e1, e2, e3, e4⟩ := d3 n hn h3
  have es : zI S1 (ss n) = zI S (ss n) := h2 _ e3 (fun k hk hk3 => fun e => (d3 k (by omega) hk3).2.2.2 n hn h3 e.symm)
  have ne : ∀ c, c ≠ rs n → zI (zwI S1 (rs n) (va_cpy (zI S1 (ss n)) (zI S1 (rs n)) 0 0 (24))) c = zI S1 c := fun c hc => zup_ne hc
  have eq : zI (zwI S1 (rs n) (va_cpy (zI S1 (ss n)) (zI S1 (rs n)) 0 0 (24))) (rs n) = va_cpy (zI S1 (ss n)) (zI S1 (rs n)) 0 0 (24) := va_up_self _ _ _
  refine ⟨h1, fun c hc hk => ?_, fun j hj => ?_, ?_, fun k hk hk3 j hj => ?_⟩
  · rw [ne c (hk n (by omega) h3)]
    exact h2 c hc (fun k a b => hk k (by omega) b)
  · rw [ne o (fun e => e1 e.symm)]
    exact h4 j hj
  · rw [ne o (fun e => e1 e.symm), h5]
    by_cases c : 3 < n
    · rw [if_pos c, if_pos (by omega)]
    · rw [if_neg c, if_neg (by omega)]
  · by_cases e : k = n
    · subst e
      rw [eq, es]
      unfold va_cpy
      rw [if_pos ⟨Nat.zero_le _, by omega⟩, Nat.zero_add, Nat.sub_zero]
    · rw [ne _ (fun c => e (d2 k n (by omega) hn hk3 h3 c))]
      exact h6 k (by omega) hk3 j hj
theorem zCw.flag {S S1 : ZSt} {o o3 : Nat} {rs ss : Nat → Nat} (h : zCw S S1 o o3 rs ss 3) (d : zDw o o3 rs ss) : zCw S (zsI S1 o 3 (zI S1 o3 3)) o o3 rs ss 4 := by
  obtain ⟨h1, h2, h4, h5, h6⟩ := h
  obtain ⟨d1, d2, d3⟩ := d
  refine ⟨h1, fun c hc hk => ?_, fun j hj => ?_, ?_, fun k hk hk3 j hj => ?_⟩
  · rw [zI_ne _ _ hc]
    exact h2 c hc (fun k a b => hk k (by omega) b)
  · rw [zI_o hj]
    exact h4 j hj
  · rw [zI_s, if_pos (by omega), h2 o3 (fun e => d1 e.symm) (fun k hk hk3 e => (d3 k (by omega) hk3).2.1 e.symm)]
  · rw [zI_ne _ _ (d3 k (by omega) hk3).1]
    exact h6 k (by omega) hk3 j hj
theorem w_Wd_copyFrom {o o3 : Nat} {rs ss : Nat → Nat} {S : ZSt} {Q : ZOut → ZSt → Prop} (hS : zSh S) (c1 : zc S o = 9) (c2 : zc S o3 = 9) (hr : ∀ k, k < 3 → zR S o k = some (rs k) ∧ zArr S (rs k) 24) (hs : ∀ k, k < 3 → zR S o3 k = some (ss k) ∧ zArr S (ss k) 24) (d : zDw o o3 rs ss) (hQ : ∀ S', zCw S S' o o3 rs ss 4 → Q (.inl none) S') : zC m_Wa_copyFrom [.ref o, .ref o3] S Q := by
  have r0 := hr 0 (by omega)
  have s0 := hs 0 (by omega)
  have r1 := hr 1 (by omega)
  have s1 := hs 1 (by omega)
  have r2 := hr 2 (by omega)
  have s2 := hs 2 (by omega)
  have ns0 : zn S (ss 0) = 24 := s0.2.2
  have nr0 : zn S (rs 0) = 24 := r0.2.2
  refine b_Wd_copyFrom hS ⟨c2, ss 0, s0.1, c1, rs 0, r0.1, s0.2.1, r0.2.1, by decide, by decide, by decide, (by rw [ns0]; decide), (by rw [nr0]; decide), ?_⟩
  have p1 := (zCw.rf (S := S) (o := o) (o3 := o3) (rs := rs) (ss := ss)).row d (n := 0) (by omega) (by omega) (show (nI 0).toNatClampNeg = 0 by decide) (show (nI 0).toNatClampNeg = 0 by decide) (show (nI 24).toNatClampNeg = 24 by decide)
  revert p1
  generalize zwI S (rs 0) (va_cpy (zI S (ss 0)) (zI S (rs 0)) (nI 0).toNatClampNeg (nI 0).toNatClampNeg (nI 24).toNatClampNeg) = S1
  intro p1
  have C1 := p1.c
  have N1 := p1.n
  have R1 := p1.r
  have ns1 : zn S1 (ss 1) = 24 := (by rw [N1]; exact s1.2.2)
  have nr1 : zn S1 (rs 1) = 24 := (by rw [N1]; exact r1.2.2)
  refine b_Wd_copyFrom_8 (p1.sh hS) ⟨(by rw [C1]; exact c2), ss 1, (by rw [R1]; exact s1.1), (by rw [C1]; exact c1), rs 1, (by rw [R1]; exact r1.1), (by rw [C1]; exact s1.2.1), (by rw [C1]; exact r1.2.1), by decide, by decide, by decide, (by rw [ns1]; decide), (by rw [nr1]; decide), ?_⟩
  have p2 := p1.row d (n := 1) (by omega) (by omega) (show (nI 0).toNatClampNeg = 0 by decide) (show (nI 0).toNatClampNeg = 0 by decide) (show (nI 24).toNatClampNeg = 24 by decide)
  revert p2
  generalize zwI S1 (rs 1) (va_cpy (zI S1 (ss 1)) (zI S1 (rs 1)) (nI 0).toNatClampNeg (nI 0).toNatClampNeg (nI 24).toNatClampNeg) = S2
  intro p2
  have C2 := p2.c
  have N2 := p2.n
  have R2 := p2.r
  have ns2 : zn S2 (ss 2) = 24 := (by rw [N2]; exact s2.2.2)
  have nr2 : zn S2 (rs 2) = 24 := (by rw [N2]; exact r2.2.2)
  refine b_Wd_copyFrom_16 (p2.sh hS) ⟨(by rw [C2]; exact c2), ss 2, (by rw [R2]; exact s2.1), (by rw [C2]; exact c1), rs 2, (by rw [R2]; exact r2.1), (by rw [C2]; exact s2.2.1), (by rw [C2]; exact r2.2.1), by decide, by decide, by decide, (by rw [ns2]; decide), (by rw [nr2]; decide), ?_⟩
  have p3 := p2.row d (n := 2) (by omega) (by omega) (show (nI 0).toNatClampNeg = 0 by decide) (show (nI 0).toNatClampNeg = 0 by decide) (show (nI 24).toNatClampNeg = 24 by decide)
  revert p3
  generalize zwI S2 (rs 2) (va_cpy (zI S2 (ss 2)) (zI S2 (rs 2)) (nI 0).toNatClampNeg (nI 0).toNatClampNeg (nI 24).toNatClampNeg) = S3
  intro p3
  exact b_Wd_copyFrom_24 (p3.sh hS) ⟨by rw [p3.c]; exact c2, by rw [p3.c]; exact c1, hQ _ (p3.flag d)⟩
/-- what adopt has made ahead of writing it down -/
def zAd (S S4 : ZSt) (n : Nat) (kd fa fb : Nat → Nat) : Prop := zGr S S4 ∧ zx S4 = zx S + 4 ∧ zu S4 = zu S + 4 ∧ zz S4 ≤ zz S + 112 ∧ (∀ c, zx S ≤ c → c < zx S4 → zc S4 c ≠ 5) ∧ (∀ c k q, zx S ≤ c → c < zx S4 → zR S4 c k = some q → c = zx S ∧ k < 3 ∧ q = zx S + 1 + k) ∧ jWO S4 (zx S) (zx S + 1) (zx S + 2) (zx S + 3) n kd fa fb
set_option maxHeartbeats 1000000 in
theorem w_N_adopt {S : ZSt} {v1 wc n : Nat} {kd fa fb : Nat → Nat} {Q : ZOut → ZSt → Prop} (hS : zSh S) (hv : v1 = 82 ∨ v1 = 119) (h6 : zI S 75 6 = nI wc) (hwc : wc < 6) (hn : n ≤ 24) (w3 : zI S v1 3 = nI n) (w : ∀ k, k < n → zI S (v1 + 1) k = nI (kd k) ∧ zI S (v1 + 2) k = eA (kd k) (fa k) ∧ zI S (v1 + 3) k = eB (kd k) (fb k)) (hQ : ∀ S4, zAd S S4 n kd fa fb → Q (.inl (some (.int (nI wc)))) (zsI (zsR S4 90 wc (some (zx S))) 75 6 (nI (wc + 1)))) : zC m_N_adopt [.ref 75, .ref v1] S Q := by
  have hx : 162 ≤ zx S := hS.2.2.2
  have src : zc S v1 = 9 ∧ ∀ k, k < 3 → zR S v1 k = some (v1 + 1 + k) ∧ zArr S (v1 + 1 + k) 24 := by
    rcases hv with e | e <;> subst e
    · refine ⟨hS.1 82 (by omega), fun k hk => ?_⟩
      rcases (show k = 0 ∨ k = 1 ∨ k = 2 by omega) with e | e | e <;> subst e <;> exact ⟨hS.2.2.1 _ _ _ (by decide), hS.1 _ (by omega), hS.2.1 _ (by omega) (by omega)⟩
    · refine ⟨hS.1 119 (by omega), fun k hk => ?_⟩
      rcases (show k = 0 ∨ k = 1 ∨ k = 2 by omega) with e | e | e <;> subst e <;> exact ⟨hS.2.2.1 _ _ _ (by decide), hS.1 _ (by omega), hS.2.1 _ (by omega) (by omega)⟩
  have vb : v1 < 120 := by omega
  have ex0 : zx (zNew S 9 0 4 (fun _ => 0)) = zx S + 1 := rfl
  have eu0 : zu (zNew S 9 0 4 (fun _ => 0)) = zu S + 1 := rfl
  have ez0 : zz (zNew S 9 0 4 (fun _ => 0)) = zz S + 4 := rfl
  refine b_N_adopt hS ⟨fun _ => ⟨va_up_self _ _ _, ?_⟩, fun h9 => absurd (by rw [h6]; exact nI_lt hwc (by omega)) h9⟩
  refine w_Wa_init (S0 := S) (o := zx S) hS (zGr.rf.new hx) ⟨Nat.le_refl _, by omega⟩ (va_up_self _ _ _) (fun k => by show va_up (zR S) (zx S) (fun _ => none) (zx S) k = none; rw [va_up_self]) (fun S3 m => b_N_adopt_9 (m.1.sh hS) ⟨m.2.2.1, ?_⟩)
  obtain ⟨g, m2, m3, m4, m5, m6, m7, m8⟩ := m
  have hS3 := g.sh hS
  rw [ex0] at m2 m4 m5 m6
  have od : ∀ c, c < zx S → zI S3 c = zI S c := fun c hc => (g.2.1 c hc).1
  have dw : zDw (zx S) v1 (fun k => zx S + 1 + k) (fun k => v1 + 1 + k) := ⟨by omega, fun k k' _ _ _ _ e => by
    have e : zx S + 1 + k = zx S + 1 + k' := e
    omega, fun k hk _ => ⟨by show zx S + 1 + k ≠ zx S; omega, by show zx S + 1 + k ≠ v1; omega, by show v1 + 1 + k ≠ zx S; omega, fun k' hk' _ => by show zx S + 1 + k ≠ v1 + 1 + k'; omega⟩⟩
  refine w_Wd_copyFrom (rs := fun k => zx S + 1 + k) (ss := fun k => v1 + 1 + k) hS3 m3 ((g.2.1 v1 (by omega)).2.2.2.trans src.1) (fun k hk => ⟨(m4 k hk).1, (m4 k hk).2⟩) (fun k hk => ⟨by rw [(g.2.1 v1 (by omega)).2.1]; exact (src.2 k hk).1, (g.2.1 _ (by omega)).2.2.2.trans (src.2 k hk).2.1, (g.2.1 _ (by omega)).2.2.1.trans (src.2 k hk).2.2⟩) dw (fun S4 p => b_N_adopt_13 (p.sh hS3) ?_)
  have hS4 := p.sh hS3
  have eR := p.r
  have ec := p.c
  have en := p.n
  have ex : zx S4 = zx S3 := by show S4.2.2.2.2.2.1 = S3.2.2.2.2.2.1; rw [p.1]
  have eu : zu S4 = zu S3 := by show S4.2.2.2.2.2.2.1 = S3.2.2.2.2.2.2.1; rw [p.1]
  have ez : zz S4 = zz S3 := by show S4.2.2.2.2.2.2.2 = S3.2.2.2.2.2.2.2; rw [p.1]
  have eL : zL S4 = zL S3 := by show S4.2.1 = S3.2.1; rw [p.1]
  have lo : ∀ c, c < zx S → zI S4 c = zI S c := fun c hc => (p.2.1 c (by omega) (fun k hk hk3 => by show c ≠ zx S + 1 + k; omega)).trans (od c hc)
  have g4 : zGr S S4 := ⟨by rw [ex]; exact g.1, fun c hc => ⟨lo c hc, by rw [eR]; exact (g.2.1 c hc).2.1, by rw [en]; exact (g.2.1 c hc).2.2.1, by rw [ec]; exact (g.2.1 c hc).2.2.2⟩, fun c hc => by rw [ex] at hc; rw [eR, ec]; exact g.2.2.1 c hc, by rw [eL]; exact g.2.2.2⟩
  have tn : zTr 90 wc = none := by
    rcases (show wc = 0 ∨ wc = 1 ∨ wc = 2 ∨ wc = 3 ∨ wc = 4 ∨ wc = 5 by omega) with x | x | x | x | x | x <;> rw [x] <;> decide
  have n90 : zn S4 90 = 6 := hS4.2.1 90 (by omega) (by omega)
  rw [lo 75 (by omega), h6, nI_add, zcl9 (by omega), pk_sub (by omega), show wc + 1 - 1 = wc by omega, n90]
  have cls : ∀ c, zx S ≤ c → c < zx S4 → c = zx S ∨ ∃ j, j < 3 ∧ c = zx S + 1 + j := fun c x y => by
    by_cases z : c = zx S
    · exact Or.inl z
    · exact Or.inr ⟨c - (zx S + 1), by omega, by omega⟩
  refine ⟨tn, hS4.1 90 (by omega), by rw [ec]; exact m3, zin (by omega) (by omega), hQ S4 ⟨g4, by omega, by omega, by omega, fun c x y => ?_, fun c k q x y z => ?_, ?_⟩⟩
  · rcases cls c x y with e | ⟨j, j1, j2⟩
    · rw [e, ec, m3]
      decide
    · rw [j2, ec, (m4 j j1).2.1]
      decide
  · rw [eR] at z
    rcases cls c x y with e | ⟨j, j1, j2⟩
    · rw [e] at z
      obtain ⟨j, a1, a2, a3⟩ := m5 k q z
      have a2 : k = j := a2
      exact ⟨e, by omega, by omega⟩
    · rw [j2, m6 j j1 k] at z
      cases z
  · have row : ∀ k, k < 3 → ∀ j, j < 24 → zI S4 (zx S + 1 + k) j = zI S (v1 + 1 + k) j := fun k hk j hj => by
      rw [← od (v1 + 1 + k) (by omega)]
      exact p.2.2.2.2 k (by omega) (by omega) j hj
    refine ⟨by rw [ec]; exact m3, ?_, by rw [eR]; exact ⟨(m4 0 (by omega)).1, (m4 1 (by omega)).1, (m4 2 (by omega)).1⟩, by unfold zArr; rw [ec, en]; exact ⟨(m4 0 (by omega)).2, (m4 1 (by omega)).2, (m4 2 (by omega)).2⟩, fun k hk => ?_⟩
    · rw [p.2.2.2.1, if_pos (by omega), od v1 (by omega)]
      exact w3
    · have a := row 0 (by omega) k (by omega)
      have b := row 1 (by omega) k (by omega)
      have c := row 2 (by omega) k (by omega)
      obtain ⟨x, y, z⟩ := w k hk
      exact ⟨a.trans x, b.trans y, c.trans z⟩
theorem zAd.base {S S4 : ZSt} {wc n : Nat} {kd fa fb : Nat → Nat} (hB : zBase S) (hS : zSh S) (h : zAd S S4 n kd fa fb) (h6 : zI S 75 6 = nI wc) (hwc : wc < 6) : zBase (zsR S4 90 wc (some (zx S))) := by
  obtain ⟨g, a2, a3, a4, a5, a6, a7⟩ := h
  have hx : 162 ≤ zx S := hS.2.2.2
  refine zGr.base (tn := fun c => if c = zx S then 1000 + 10 * wc else 1001 + 10 * wc + (c - (zx S + 1))) hB hS g (Or.inl rfl) ⟨fun _ => hwc, fun x => by omega⟩ ⟨Nat.le_refl _, by omega⟩ a5 (fun c k q x y z => ?_) (fun _ => ⟨if_pos rfl, fun k q hk hq => ?_⟩) (fun x => by omega) (fun x => by omega) (fun _ jc hj hj6 => ?_) (fun x => by omega)
  · obtain ⟨-, b2, b3⟩ := a6 c k q x y z
    omega
  · obtain ⟨-, b2, b3⟩ := a6 _ k q (Nat.le_refl _) (by omega) hq
    refine ⟨by omega, ?_⟩
    rw [if_neg (by omega), b3, Nat.add_sub_cancel_left]
  · have := nEq (a := wc) (b := jc) (by omega) (by omega) (h6.symm.trans hj)
    omega
